/-! longs out of bits; what is noted of a state, by aims: plain, fair, aloft, rows -/
def bldN (p : Nat → Bool) : Nat → Int64
  | 0 => 0
  | k + 1 => bldN p k ||| (if p k = true then lsh 1 (iI (k : Int)) else 0)
theorem bldN_b {p : Nat → Bool} : ∀ {k i : Nat}, k ≤ 64 → i < 64 → tb (bldN p k) i = (decide (i < k) && p i)
  | 0, i, _, _ => by
    show tb 0 i = _
    rw [tb_0, decide_eq_false (by omega), Bool.false_and]
  | k + 1, i, hk, hi => by
    show tb (bldN p k ||| (if p k = true then lsh 1 (iI (k : Int)) else 0)) i = _
    rw [tb_or, bldN_b (by omega) hi]
    by_cases q : i = k
    · subst q
      rw [decide_eq_false (by omega), decide_eq_true (by omega), Bool.false_and, Bool.false_or, Bool.true_and]
      by_cases c : p i = true
      · rw [if_pos c, tb_one (by omega) hi, decide_eq_true rfl, c]
      · rw [if_neg c, tb_0]
        cases e : p i
        · rfl
        · exact absurd e c
    · have z : tb (if p k = true then lsh 1 (iI (k : Int)) else 0) i = false := by
        by_cases c : p k = true
        · rw [if_pos c, tb_one (by omega) hi, decide_eq_false q]
        · rw [if_neg c, tb_0]
      rw [z, Bool.or_false]
      by_cases c : i < k
      · rw [decide_eq_true c, decide_eq_true (by omega)]
      · rw [decide_eq_false c, decide_eq_false (by omega)]
def bld (p : Nat → Bool) : Int64 := bldN p 64
theorem bld_b {p : Nat → Bool} {i : Nat} (hi : i < 64) : tb (bld p) i = p i := by
  unfold bld
  rw [bldN_b (Nat.le_refl _) hi, decide_eq_true hi, Bool.true_and]
/-- tags are changed by U, column by column -/
def ntU (U : Nat → Nat → Nat → Nat) (T : Nat) : NtF := fun l f t => bld (fun c => anyN (fun t0 => tb (f t0) c && decide (U l c t0 = t)) T)
theorem ntU_b {U : Nat → Nat → Nat → Nat} {T l t c : Nat} {f : Nat → Int64} (hc : c < 64) : tb (ntU U T l f t) c = true ↔ ∃ t0, t0 < T ∧ tb (f t0) c = true ∧ U l c t0 = t := by
  unfold ntU
  rw [bld_b hc, anyN_t]
  constructor
  · rintro ⟨j, h1, h2⟩
    rw [Bool.and_eq_true, decide_eq_true_eq] at h2
    exact ⟨j, h1, h2⟩
  · rintro ⟨j, h1, h2⟩
    exact ⟨j, h1, by rw [Bool.and_eq_true, decide_eq_true_eq]; exact h2⟩
theorem tb_iff {x y : Int64} (h : ∀ i, i < 64 → (tb x i = true ↔ tb y i = true)) : x = y := tb_ext (fun i hi => by
  have := h i hi
  cases e : tb x i <;> cases e2 : tb y i
  · rfl
  · exact absurd (this.mpr e2) (by rw [e]; decide)
  · exact absurd (this.mp e) (by rw [e2]; decide)
  · rfl)
/-- what the tags tell: counted hours, the last place takes all -/
def upT (T : Nat) (m : Nat → Nat → Bool) : Nat → Nat → Nat → Nat := fun l c t => if m l c = true then min (t + 1) (T - 1) else t
theorem cnV_U {o : Nat → Bool} {m : Bool} {T t : Nat} (T0 : 1 ≤ T) (ht : t < T) : cnV o m T 0 t = true ↔ ∃ t0, t0 < T ∧ o t0 = true ∧ (if m = true then min (t0 + 1) (T - 1) else t0) = t := by
  cases m
  · unfold cnV
    rw [if_pos (Or.inl rfl)]
    constructor
    · intro w
      exact ⟨t, ht, w, by simp⟩
    · rintro ⟨t0, h1, h2, h3⟩
      simp at h3
      rw [← h3]
      exact h2
  · unfold cnV
    rw [if_neg (by simp)]
    simp only [if_true]
    by_cases q : t = 0
    · subst q
      rw [if_pos rfl]
      by_cases q2 : 0 + 1 = T
      · rw [if_pos q2]
        constructor
        · intro w
          exact ⟨0, ht, w, by omega⟩
        · rintro ⟨t0, h1, h2, h3⟩
          rw [show t0 = 0 by omega] at h2
          exact h2
      · rw [if_neg q2]
        constructor
        · intro w
          cases w
        · rintro ⟨t0, h1, h2, h3⟩
          omega
    · rw [if_neg q]
      by_cases q2 : t + 1 = T
      · rw [if_pos q2, Bool.or_eq_true]
        constructor
        · rintro (w | w)
          · exact ⟨t, ht, w, by omega⟩
          · exact ⟨t - 1, by omega, w, by omega⟩
        · rintro ⟨t0, h1, h2, h3⟩
          by_cases e : t0 = t
          · exact Or.inl (e ▸ h2)
          · rw [show t0 = t - 1 by omega] at h2
            exact Or.inr h2
      · rw [if_neg q2]
        constructor
        · intro w
          exact ⟨t - 1, by omega, w, by omega⟩
        · rintro ⟨t0, h1, h2, h3⟩
          rw [show t0 = t - 1 by omega] at h2
          exact h2
theorem s8_bitO {c : Int32} {s : Hp} : fX8_bitOf c s = some (lsh 1 c, s) := rfl
section NTA
variable {E : Ev} {B : Bk} {d p r S G L n T : Nat} {V : Vy} {ed : Int → Int64} {k : Int} {A A' : StF} {h : Nat}
def SdN (_ : Nat → Nat → Nat → Prop) (_ : Bk) : Prop := True
theorem s4_nH {s u l : Nat} (R : RE E d p r) (c : RC B d p r V ed S G L T k) (hn : V.1 3 = (n : Int)) : fX4_note (E.1 + d) (iI (s : Int)) (iI (u : Int)) (iI (l : Int)) (iI (h : Int)) (St E B) = if iI k = 0 then ((gR (St E B) (E.1 + d) 4 5).bind fun v20 => (aL (St E B) (E.1 + (d + 1)) (iI ((plN G n T s u l 0 : Nat) : Int))).bind fun v22 => (fX2_addCells v20 (iI (h : Int)) (iI (l : Int)) (iI (s : Int)) v22 (St E B)).bind fun s23 => some s23) else if iI k = iI 1 then ((fX4_noteTours (E.1 + d) (iI (s : Int)) (iI (l : Int)) (iI ((plN G n T s u l 0 : Nat) : Int)) (iI (h : Int)) (St E B)).bind fun s19 => some s19) else if iI k = iI 2 then (if iI (h : Int) < iI (V.1 11) then fX4_note_b97 (E.1 + d) (iI (l : Int)) (iI ((plN G n T s u l 0 : Nat) : Int)) (St E B) else (fX4_countHour (E.1 + d) (iI ((plN G n T s u l 0 : Nat) : Int)) (lsh 1 (iI (V.1 10))) (St E B)).bind fun s18 => some s18) else fX4_note_b97 (E.1 + d) (iI (l : Int)) (iI ((plN G n T s u l 0 : Nat) : Int)) (St E B) := by
  unfold fX4_note
  rw [c4 R.1.1, some_bind, s4_pO R c hn, some_bind]
  dsimp only
  rw [g4_10 R.1.1, some_bind, c.2.1.2.2.2.2, g4_0 R.1.1, some_bind, some_bind, g4_4 R.1.1 c.1.1, some_bind, g6_11 R.2.1.1, some_bind, RC_v c, some_bind, g6_10 R.2.1.1, some_bind, RC_v c, s8_bitO, some_bind]
  rfl
theorem s4_n97 {l : Nat} {a : Int} (R : RE E d p r) (c : RC B d p r V ed S G L T k) (hl : l < 5) : fX4_note_b97 (E.1 + d) (iI (l : Int)) (iI a) (St E B) = if k = 3 ∧ 0 < l then (fX4_countHour (E.1 + d) (iI a) (-1) (St E B)).bind fun s11 => some s11 else some (St E B) := by
  have k0 := c.2.2.2.2.2.1
  unfold fX4_note_b97
  rw [g4_10 R.1.1, some_bind, c.2.1.2.2.2.2]
  by_cases q : k = 3
  · rw [if_pos (by rw [q])]
    by_cases q2 : 0 < l
    · rw [if_neg (by rw [iI_0, iI_le (by omega) (by omega) (by omega) (by omega)]; omega), if_pos ⟨q, q2⟩]
    · rw [if_pos (by rw [iI_0, iI_le (by omega) (by omega) (by omega) (by omega)]; omega), if_neg (fun w => q2 w.2)]
  · rw [if_neg (fun w => q ((iI_eq (by omega) (by omega) (by omega) (by omega)).mp w)), if_neg (fun w => q w.1)]
/-- a counted hour, in states -/
theorem s4_cnt {s u l : Nat} {m : Int64} {mb : Nat → Bool} (R : RE E d p r) (c : RC B d p r V ed S G L T k) (hn : n ≤ 5) (hS : S ≤ 9) (hG : G ≤ 9) (hs : s ≤ S) (hu : u ≤ G) (hl : l < n) (hm : ∀ i, i < 64 → tb m i = mb i) (hA : stR B d S G n T A) : ∃ C, fX4_countHour (E.1 + d) (iI ((plN G n T s u l 0 : Nat) : Int)) m (St E B) = some (St E C) ∧ roF d B C ∧ stR C d S G n T (upB A s u l (ntU (upT T (fun _ c => mb c)) T l (A s u l))) := by
  have T0 := c.2.2.2.2.2.2.1
  have T1 := c.2.2.2.2.2.2.2
  have top := plN_lt (G := G) (n := n) (T := T) (s := s) (u := u) (l := l) (t := T - 1) hG hn T1 (by omega) hu hl (by omega)
  have pz := plN_0 (G := G) (n := n) (T := T) (s := s) (u := u) (l := l) (t := T - 1)
  obtain ⟨C, e1, e2, e3, e4⟩ := s4_countHour (E := E) (B := B) (d := d) (n := T) (a := ((plN G n T s u l 0 : Nat) : Int)) (m := m) R.1.1 R.1.2.1 c.2.1.2.2.2.1 ⟨T0, T1⟩ (by omega)
  refine ⟨C, e1, e2, stR_up hA hu hl (fun t ht => ?_) e3⟩
  refine tb_iff (fun i hi => ?_)
  have p0 := plN_0 (G := G) (n := n) (T := T) (s := s) (u := u) (l := l) (t := t)
  rw [show ((plN G n T s u l t : Nat) : Int) = ((plN G n T s u l 0 : Nat) : Int) + (t : Int) by omega, e4 t ht i hi, ntU_b hi, cnV_U T0 ht, hm i hi]
  constructor
  · rintro ⟨t0, h1, h2, h3⟩
    have p1 := plN_0 (G := G) (n := n) (T := T) (s := s) (u := u) (l := l) (t := t0)
    rw [show ((plN G n T s u l 0 : Nat) : Int) + (t0 : Int) = ((plN G n T s u l t0 : Nat) : Int) by omega, hA s u l t0 hs hu hl h1] at h2
    exact ⟨t0, h1, h2, h3⟩
  · rintro ⟨t0, h1, h2, h3⟩
    have p1 := plN_0 (G := G) (n := n) (T := T) (s := s) (u := u) (l := l) (t := t0)
    refine ⟨t0, h1, ?_, h3⟩
    rw [show ((plN G n T s u l 0 : Nat) : Int) + (t0 : Int) = ((plN G n T s u l t0 : Nat) : Int) by omega, hA s u l t0 hs hu hl h1]
    exact h2
theorem ntU_id {U : Nat → Nat → Nat → Nat} {l t : Nat} {f : Nat → Int64} (hU : ∀ c t, U l c t = t) (ht : t < T) : ntU U T l f t = f t := by
  refine tb_iff (fun i hi => ?_)
  rw [ntU_b hi]
  constructor
  · rintro ⟨t0, h1, h2, h3⟩
    rw [hU] at h3
    rw [← h3]
    exact h2
  · intro w
    exact ⟨t, ht, w, hU i t⟩
theorem upB_id {s u l : Nat} {f : Nat → Int64} (hA : stR B d S G n T A) (hf : ∀ t, t < T → f t = A s u l t) : stR B d S G n T (upB A s u l f) := stR_eq hA (fun s' u' l' t' h1 h2 h3 h4 => by
  unfold upB
  by_cases q : s' = s ∧ u' = u ∧ l' = l
  · rw [if_pos q, hf t' h4, q.1, q.2.1, q.2.2]
  · rw [if_neg q])
/-- the fair: hours from its first one count over its column -/
def mFa (h : Nat) (V : Vy) : Nat → Nat → Bool := fun _ c => decide (V.1 11 ≤ (h : Int)) && decide ((c : Int) = V.1 10)
def mAl : Nat → Nat → Bool := fun l _ => decide (0 < l)
theorem NT_fair (R : RE E d p r) (hn : V.1 3 = (n : Int)) (n5 : n ≤ 5) (hS : S ≤ 9) (hG : G ≤ 9) (f10 : 0 ≤ V.1 10 ∧ V.1 10 < 64) (f11 : 0 ≤ V.1 11 ∧ V.1 11 < 24) (hh : h < 24) : NT E d p r S G n T V ed L 2 h (ntU (upT T (mFa h V)) T) A' SdN := by
  intro B A D s u l hs hu hl c hA _ _
  rw [s4_nH R c hn, if_neg (by decide), if_neg (by decide), if_pos rfl]
  by_cases q : (h : Int) < V.1 11
  · rw [if_pos (by rw [iI_lt (by omega) (by omega) (by omega) (by omega)]; exact q), s4_n97 R c (by omega), if_neg (by omega)]
    refine ⟨B, rfl, nF_rfl, upB_id hA (fun t ht => ntU_id (fun c t => ?_) ht), trivial⟩
    unfold upT mFa
    rw [decide_eq_false (by omega), Bool.false_and, if_neg (by decide)]
  · rw [if_neg (by rw [iI_lt (by omega) (by omega) (by omega) (by omega)]; exact q)]
    obtain ⟨C, e1, e2, e3⟩ := s4_cnt (s := s) (u := u) (l := l) (m := lsh 1 (iI (V.1 10))) (mb := fun c => mFa h V l c) R c n5 hS hG hs hu hl (fun i hi => by
      have := tb_one (k := (V.1 10).toNat) (by omega) hi
      rw [show (((V.1 10).toNat : Nat) : Int) = V.1 10 by omega] at this
      rw [this]
      unfold mFa
      rw [decide_eq_true (show V.1 11 ≤ (h : Int) by omega), Bool.true_and]
      congr 1
      apply propext
      omega) hA
    exact ⟨C, by rw [e1]; rfl, nF_ro e2, e3, trivial⟩
theorem NT_aloft (R : RE E d p r) (hn : V.1 3 = (n : Int)) (n5 : n ≤ 5) (hS : S ≤ 9) (hG : G ≤ 9) : NT E d p r S G n T V ed L 3 h (ntU (upT T mAl) T) A' SdN := by
  intro B A D s u l hs hu hl c hA _ _
  rw [s4_nH R c hn, if_neg (by decide), if_neg (by decide), if_neg (by decide), s4_n97 R c (by omega)]
  by_cases q : 0 < l
  · rw [if_pos ⟨rfl, q⟩]
    obtain ⟨C, e1, e2, e3⟩ := s4_cnt (s := s) (u := u) (l := l) (m := -1) (mb := fun c => mAl l c) R c n5 hS hG hs hu hl (fun i hi => by
      rw [tb_m1 i hi]
      unfold mAl
      rw [decide_eq_true q]) hA
    refine ⟨C, by rw [e1]; rfl, nF_ro e2, ?_, trivial⟩
    have : ntU (upT T fun _ c => mAl l c) T l (A s u l) = ntU (upT T mAl) T l (A s u l) := rfl
    rw [this] at e3
    exact e3
  · rw [if_neg (fun w => q w.2)]
    refine ⟨B, rfl, nF_rfl, upB_id hA (fun t ht => ntU_id (fun c t => ?_) ht), trivial⟩
    unfold upT mAl
    rw [decide_eq_false q, if_neg (by decide)]
theorem NT_rows (R : RE E d p r) (hn : V.1 3 = (n : Int)) (n5 : n ≤ 5) : NT E d p r S G n T V ed L 4 h (fun _ f => f) A' SdN := by
  intro B A D s u l hs hu hl c hA _ _
  rw [s4_nH R c hn, if_neg (by decide), if_neg (by decide), if_neg (by decide), s4_n97 R c (by omega), if_neg (by omega)]
  exact ⟨B, rfl, nF_rfl, upB_id hA (fun t ht => rfl), trivial⟩
/-- plain: the columns are kept, by hour, layer and sand -/
def SdP (B0 : Bk) (r h : Nat) (A' : StF) (D : Nat → Nat → Nat → Prop) (B : Bk) : Prop := B.2.2.2.1 = B0.2.2.2.1 ∧ (∀ z : Int, (∀ l s : Nat, l < 5 → s < 10 → ¬ z = pc2 (h : Int) (l : Int) (s : Int)) → B.2.2.2.2 (r + 1) z = B0.2.2.2.2 (r + 1) z) ∧ ∀ l s c : Nat, l < 5 → s < 10 → c < 64 → (tb (B.2.2.2.2 (r + 1) (pc2 (h : Int) (l : Int) (s : Int))) c = true ↔ ∃ u, D s u l ∧ tb (A' s u l 0) c = true)
theorem SdP_ro {B0 C : Bk} (R : RE E d p r) {D : Nat → Nat → Nat → Prop} (f : roF d B C) (w : SdP B0 r h A' D B) : SdP B0 r h A' D C := by
  have := R.2.2.2.2
  unfold SdP at *
  rw [f.2.2.2.2 (r + 1) (by omega), f.2.2.2.1]
  exact w
theorem NT_plain {B0 : Bk} (R : RE E d p r) (hn : V.1 3 = (n : Int)) (n5 : n ≤ 5) (hS : S ≤ 9) (hG : G ≤ 9) (hh : h < 24) : NT E d p r S G n 1 V ed L 0 h (ntU (fun _ _ t => t) 1) A' (SdP B0 r h A') := by
  intro B A D s u l hs hu hl c hA eA w
  have rr := R.2.2.2.2
  have top := plN_lt (G := G) (n := n) (T := 1) (s := s) (u := u) (l := l) (t := 0) hG n5 (by omega) (by omega) hu hl (by omega)
  have f0 : A s u l 0 = A' s u l 0 := by rw [← eA 0 (by omega), ntU_id (fun _ _ => rfl) (by omega)]
  rw [s4_nH R c hn, if_pos (by decide), g4_5 R.1.1 (c.1.2 (by omega)), some_bind, aL_ok R.1.2.1 (by omega) (by omega) (by omega), some_bind, s2_addCells R.2.2.1.1 R.2.2.1.2.1 (by omega) (by omega) (by omega), some_bind, hA s u l 0 hs hu hl (by omega)]
  refine ⟨_, rfl, ⟨rfl, rfl, rfl, fun _ _ _ => rfl, fun e q1 q2 => ?_⟩, ?_, w.1, ?_, ?_⟩
  · funext z
    rw [wJ_5, if_neg (fun a => q2 a.1)]
  · refine upB_id (fun s' u' l' t' h1 h2 h3 h4 => ?_) (fun t ht => ntU_id (fun _ _ => rfl) ht)
    rw [wJ_5, if_neg (by omega)]
    exact hA s' u' l' t' h1 h2 h3 h4
  · intro z hz
    rw [wJ_5, if_neg (fun a => hz l s (by omega) (by omega) a.2)]
    exact w.2.1 z hz
  · intro l' s' c' hl' hs' hc'
    rw [wJ_5]
    by_cases q : pc2 (h : Int) (l' : Int) (s' : Int) = pc2 (h : Int) (l : Int) (s : Int)
    · have q2 : l' = l ∧ s' = s := by unfold pc2 at q; omega
      obtain ⟨rfl, rfl⟩ := q2
      rw [if_pos ⟨rfl, rfl⟩, tb_or, Bool.or_eq_true, w.2.2 l' s' c' hl' hs' hc', f0]
      constructor
      · rintro (⟨u', a1, a2⟩ | a)
        · exact ⟨u', Or.inl a1, a2⟩
        · exact ⟨u, Or.inr ⟨rfl, rfl, rfl⟩, a⟩
      · rintro ⟨u', a1 | ⟨-, rfl, -⟩, a2⟩
        · exact Or.inl ⟨u', a1, a2⟩
        · exact Or.inr a2
    · rw [if_neg (fun a => q a.2), w.2.2 l' s' c' hl' hs' hc']
      constructor
      · rintro ⟨u', a1, a2⟩
        exact ⟨u', Or.inl a1, a2⟩
      · rintro ⟨u', a1 | ⟨rfl, rfl, rfl⟩, a2⟩
        · exact ⟨u', a1, a2⟩
        · exact absurd rfl q
end NTA
