/-! fair and aloft: sets with counts of hours; the reference's best -/
def Ph (V : Vy) (S G : Nat) (U : Nat → Nat → Nat → Nat → Nat) (P0 : StP) : Nat → StP
  | 0 => P0
  | j + 1 => Sx V S G (U j) j (Ph V S G U P0 j)
def gNo (V : Vy) (kd : Int) (h l c : Nat) : Nat := if kd = 1 then (if (c : Int) = V.1 10 ∧ V.1 11 ≤ (h : Int) ∧ (h : Int) ≤ V.1 12 then 1 else 0) else if 0 < l then 1 else 0
def gU (V : Vy) (kd : Int) (h : Nat) : Nat → Nat → Nat → Nat := fun l c m => m + gNo V kd h l c
/-- r is the greatest count of a set, 0 where there is none -/
def tgS (P : StP) (r : Int) : Prop := 0 ≤ r ∧ (∀ c l s u m, P c l s u m → (m : Int) ≤ r) ∧ (r = 0 ∨ ∃ c l s u m, P c l s u m ∧ (m : Int) = r)
theorem tgS_u {P : StP} {r r' : Int} (h : tgS P r) (g : tgS P r') : r = r' := by
  obtain ⟨h1, h2, h3⟩ := h
  obtain ⟨g1, g2, g3⟩ := g
  have a : r ≤ r' := by
    rcases h3 with e | ⟨c, l, s, u, m, p, e⟩
    · omega
    · have := g2 c l s u m p
      omega
  have b : r' ≤ r := by
    rcases g3 with e | ⟨c, l, s, u, m, p, e⟩
    · omega
    · have := h2 c l s u m p
      omega
  omega
section MST
variable {E : Ev} {B X : Bk} {V : Vy} {S G n L h T c0 : Nat} {kd : Int} {P : StP} {U : Nat → Nat → Nat → Nat}
theorem gNo_1 {l c : Nat} : gNo V kd h l c ≤ 1 := by
  unfold gNo
  repeat' split
  all_goals omega
theorem gNo_R {a c l : Int} {c' l' : Nat} (e1 : (c' : Int) = ccA V a (h : Int) c l) (e2 : (l' : Int) = clA V (h : Int) (lvA a l)) : gdR V kd (h : Int) a c l = (gNo V kd h l' c' : Int) := by
  unfold gdR gNo
  rw [← e1, ← e2]
  by_cases q : kd = 1
  · rw [if_pos q, if_pos q]
    by_cases q2 : (c' : Int) = V.1 10 ∧ V.1 11 ≤ (h : Int) ∧ (h : Int) ≤ V.1 12
    · rw [if_pos q2, if_pos q2]
      rfl
    · rw [if_neg q2, if_neg q2]
      rfl
  · rw [if_neg q, if_neg q]
    by_cases q2 : 0 < l'
    · rw [if_pos q2, if_pos (by omega)]
      rfl
    · rw [if_neg q2, if_neg (by omega)]
      rfl
theorem Sx_PBm {b : Nat} (hV : VOK V) (hn : V.1 3 = (n : Int)) (hh : (h : Int) < V.1 4) (hU : ∀ l c m, U l c m ≤ m + 1) (hP : PB V S G n (b + 1) L h P) : PB V S G n (b + 2) L (h + 1) (Sx V S G U h P) := by
  have hP' : PB V S G n (b + 2) L h P := fun c l s u m p => by
    obtain ⟨b1, b2, b3, b4, b5, b6⟩ := hP c l s u m p
    exact ⟨b1, b2, b3, b4, by omega, b6⟩
  have pb := Sx_PB (U := fun l c m => min (U l c m) (b + 1)) (T := b + 2) hV hn hh (fun l c m _ _ _ => by omega) hP'
  rintro c' l' s' u' m' ⟨c, l, s, u, m, a, p, ok, e1, e2, e3, e4, e5⟩
  have b5 := (hP c l s u m p).2.2.2.2.1
  have u1 := hU l' c' m
  exact pb c' l' s' u' m' ⟨c, l, s, u, m, a, p, ok, e1, e2, e3, e4, by dsimp only; omega⟩
theorem Ph_PB (hV : VOK V) (hn : V.1 3 = (n : Int)) (cok : cOK (V.1 1) (V.1 2) (c0 : Int)) (hL : L < n) : ∀ {j : Nat}, (j : Int) ≤ V.1 4 → PB V S G n (j + 1) L j (Ph V S G (gU V kd) (iP c0 L 0) j)
  | 0, _ => iP_PB cok hL (by omega)
  | j + 1, hj => Sx_PBm hV hn (by omega) (fun l c m => by
      have := gNo_1 (V := V) (kd := kd) (h := j) (l := l) (c := c)
      unfold gU
      omega) (Ph_PB hV hn cok hL (by omega))
/-- the reference's rows behind j hours -/
def nbI (V : Vy) (S G : Nat) (kd : Int) (c0 L j : Nat) (N : Int → Int) : Prop := (∀ z, -1 ≤ N z) ∧ (∀ c l s u m, Ph V S G (gU V kd) (iP c0 L 0) j c l s u m → (m : Int) ≤ N (sC (c : Int) (l : Int) ((S : Int) - (s : Int)) ((G : Int) - (u : Int)))) ∧ ∀ z, ¬ N z = -1 → ∃ c l s u m, Ph V S G (gU V kd) (iP c0 L 0) j c l s u m ∧ z = sC (c : Int) (l : Int) ((S : Int) - (s : Int)) ((G : Int) - (u : Int)) ∧ N z = (m : Int)
/-- within an hour -/
def mxI (V : Vy) (kd h : Int) (N : Int → Int) (z a : Nat) (T : Int → Int) : Prop := (∀ w, -1 ≤ T w) ∧ (∀ c l f g b, tOK V c l f g 0 → ¬ N (sC c l f g) = -1 → okA V b l f g → (sC c l f g < (z : Int) ∨ (sC c l f g = (z : Int) ∧ b < (a : Int))) → N (sC c l f g) + gdR V kd h b c l ≤ T (tK V h b c l f g)) ∧ ∀ w, ¬ T w = -1 → ∃ c l f g b, tOK V c l f g 0 ∧ ¬ N (sC c l f g) = -1 ∧ okA V b l f g ∧ w = tK V h b c l f g ∧ T w = N (sC c l f g) + gdR V kd h b c l
theorem gdR_b {hh a c l : Int} : 0 ≤ gdR V kd hh a c l ∧ gdR V kd hh a c l ≤ 1 := by
  unfold gdR
  repeat' split
  all_goals omega
theorem okA_a {a l f g : Int} (q : okA V a l f g) : 0 ≤ a ∧ a < 3 := by
  unfold okA at q
  omega
theorem mx_RInv {hh : Int} {N : Int → Int} (hV : VOK V) (k0 : ¬ kd = 0) (bN : ∀ z, -1 ≤ N z ∧ N z ≤ 100) : RInv V kd hh (-1) N (mxI V kd hh N) := by
  refine ⟨⟨fun _ => Int.le_refl _, fun c l f g b t _ q w => ?_, fun w nw => absurd rfl nw⟩, fun j a T hj iv z _ _ => ⟨iv.1 z, ?_⟩, fun j a T c l f g ha hj t ej nj iv => ?_, fun j T hj nj iv => ?_, fun j T hj nj iv => ?_⟩
  · have := sC_b hV t
    have := okA_a q
    omega
  · by_cases e : T z = -1
    · omega
    · obtain ⟨c, l, f, g, b, -, -, -, -, e2⟩ := iv.2.2 z e
      have := bN (sC c l f g)
      have := gdR_b (V := V) (kd := kd) (hh := hh) (a := b) (c := c) (l := l)
      omega
  · obtain ⟨i1, i2, i3⟩ := iv
    unfold stA
    by_cases q : okA V (a : Int) l f g
    · rw [if_pos q]
      have ev : vlR V kd hh N T (a : Int) c l f g = N (sC c l f g) + gdR V kd hh (a : Int) c l := by
        unfold vlR
        rw [if_neg k0]
      rw [ev]
      obtain ⟨K, hK⟩ : ∃ K, K = tK V hh (a : Int) c l f g := ⟨_, rfl⟩
      obtain ⟨W, hW⟩ : ∃ W, W = N (sC c l f g) + gdR V kd hh (a : Int) c l := ⟨_, rfl⟩
      rw [← hK, ← hW]
      have gb := gdR_b (V := V) (kd := kd) (hh := hh) (a := (a : Int)) (c := c) (l := l)
      have nb := bN (sC c l f g)
      have nj' : ¬ N (sC c l f g) = -1 := by rw [← ej]; exact nj
      have mono : ∀ w, T w ≤ upI T K (max (T K) W) w := fun w => by
        unfold upI
        by_cases e : w = K
        · rw [if_pos e, e]
          omega
        · rw [if_neg e]
          omega
      refine ⟨fun w => Int.le_trans (i1 w) (mono w), fun c' l' f' g' b t' n' q' w => ?_, fun w nw => ?_⟩
      · by_cases e : sC c' l' f' g' = (j : Int) ∧ b = (a : Int)
        · obtain ⟨rfl, rfl, rfl, rfl⟩ := sC_inj hV t' t (by rw [e.1, ej])
          rw [e.2, ← hK, ← hW]
          unfold upI
          rw [if_pos rfl]
          omega
        · refine Int.le_trans (i2 c' l' f' g' b t' n' q' ?_) (mono _)
          have : ((a + 1 : Nat) : Int) = (a : Int) + 1 := rfl
          omega
      · unfold upI at nw ⊢
        by_cases e : w = K
        · rw [if_pos e] at nw ⊢
          by_cases e2 : W ≤ T K
          · have : max (T K) W = T K := by omega
            rw [this] at nw ⊢
            rw [e]
            exact i3 K nw
          · have : max (T K) W = W := by omega
            rw [this]
            exact ⟨c, l, f, g, (a : Int), t, nj', q, by rw [e, hK], hW⟩
        · rw [if_neg e] at nw ⊢
          exact i3 w nw
    · rw [if_neg q]
      refine ⟨i1, fun c' l' f' g' b t' n' q' w => ?_, i3⟩
      refine i2 c' l' f' g' b t' n' q' ?_
      by_cases e : sC c' l' f' g' = (j : Int) ∧ b = (a : Int)
      · obtain ⟨rfl, rfl, rfl, rfl⟩ := sC_inj hV t' t (by rw [e.1, ej])
        rw [e.2] at q'
        exact absurd q' q
      · have : ((a + 1 : Nat) : Int) = (a : Int) + 1 := rfl
        omega
  · refine ⟨iv.1, fun c' l' f' g' b t' n' q' w => ?_, iv.2.2⟩
    refine iv.2.1 c' l' f' g' b t' n' q' ?_
    have := okA_a q'
    omega
  · refine ⟨iv.1, fun c' l' f' g' b t' n' q' w => ?_, iv.2.2⟩
    refine iv.2.1 c' l' f' g' b t' n' q' ?_
    have := okA_a q'
    have : ¬ sC c' l' f' g' = (j : Int) := fun e => n' (by rw [e]; exact nj)
    omega
theorem fs_s {a : Int} {s s' : Nat} (e : (s' : Int) = (s : Int) + (if a = 1 then 1 else 0)) : fsA a ((S : Int) - (s : Int)) = (S : Int) - (s' : Int) := by
  unfold fsA
  split at e <;> rename_i q
  · rw [if_pos q]
    omega
  · rw [if_neg q]
    omega
theorem gs_u {a : Int} {s s' : Nat} (e : (s' : Int) = (s : Int) + (if a = 2 then 1 else 0)) : gsA a ((S : Int) - (s : Int)) = (S : Int) - (s' : Int) := by
  unfold gsA
  split at e <;> rename_i q
  · rw [if_pos q]
    omega
  · rw [if_neg q]
    omega
theorem PB_t {c l s u m : Nat} (hn : V.1 3 = (n : Int)) (hS : S ≤ 9) (hG : G ≤ 9) (hP : PB V S G n T L h P) (p : P c l s u m) : tOK V (c : Int) (l : Int) ((S : Int) - (s : Int)) ((G : Int) - (u : Int)) 0 := by
  obtain ⟨b1, b2, b3, b4, b5, b6⟩ := hP c l s u m p
  exact ⟨b1, by omega, by omega, by omega, by omega⟩
theorem nb_step {j : Nat} {N T : Int → Int} (hV : VOK V) (hn : V.1 3 = (n : Int)) (hS : S ≤ 9) (hG : G ≤ 9) (cok : cOK (V.1 1) (V.1 2) (c0 : Int)) (hL : L < n) (hj : (j : Int) < V.1 4) (w : nbI V S G kd c0 L j N) (v : mxI V kd (j : Int) N 32000 0 T) : nbI V S G kd c0 L (j + 1) T := by
  have pb := Ph_PB (kd := kd) (S := S) (G := G) hV hn cok hL (j := j) (by omega)
  obtain ⟨w1, w2, w3⟩ := w
  obtain ⟨i1, i2, i3⟩ := v
  refine ⟨i1, fun c' l' s' u' m' p' => ?_, fun z nz => ?_⟩
  · obtain ⟨c, l, s, u, m, a, p, ok, e1, e2, e3, e4, e5⟩ := p'
    have t := PB_t hn hS hG pb p
    have sb := sC_b hV t
    have nm := w2 c l s u m p
    have := i2 _ _ _ _ a t (by omega) ok (Or.inl (by have := sb.2; omega))
    unfold tK at this
    rw [gNo_R e1 e2, ← e1, ← e2, fs_s e3, gs_u e4] at this
    have e5' : m' = m + gNo V kd j l' c' := e5
    omega
  · obtain ⟨c, l, f, g, b, t, nn, ok, ez, eT⟩ := i3 z nz
    obtain ⟨c1, l1, s1, u1, m1, p, ec, eN⟩ := w3 _ nn
    obtain ⟨rfl, rfl, rfl, rfl⟩ := sC_inj hV t (PB_t hn hS hG pb p) ec
    have tn := tOK_n (cnt := 0) (h := (j : Int)) hV t ok
    obtain ⟨⟨x0, x1, x2⟩, y1, y2, y3, y4⟩ := tn
    obtain ⟨c', hc'⟩ : ∃ c' : Nat, (c' : Int) = ccA V b (j : Int) (c1 : Int) (l1 : Int) := ⟨_, Int.toNat_of_nonneg x0⟩
    obtain ⟨l', hl'⟩ : ∃ l' : Nat, (l' : Int) = clA V (j : Int) (lvA b (l1 : Int)) := ⟨_, Int.toNat_of_nonneg y1.1⟩
    obtain ⟨s', hs'⟩ : ∃ s' : Nat, (s' : Int) = (s1 : Int) + (if b = 1 then 1 else 0) := ⟨((s1 : Int) + (if b = 1 then 1 else 0)).toNat, by split <;> omega⟩
    obtain ⟨u', hu'⟩ : ∃ u' : Nat, (u' : Int) = (u1 : Int) + (if b = 2 then 1 else 0) := ⟨((u1 : Int) + (if b = 2 then 1 else 0)).toNat, by split <;> omega⟩
    refine ⟨c', l', s', u', m1 + gNo V kd j l' c', ⟨c1, l1, s1, u1, m1, b, p, ok, hc', hl', hs', hu', rfl⟩, ?_, ?_⟩
    · rw [ez]
      unfold tK
      rw [← hc', ← hl', fs_s hs', gs_u hu']
    · rw [eT, eN, gNo_R hc' hl']
      rfl
end MST
