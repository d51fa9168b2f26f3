/-! a free shop, pure: an hour of a set of states; the class's hour is just that -/
abbrev StP : Type := Nat → Nat → Nat → Nat → Nat → Prop
def Sx (V : Vy) (S G : Nat) (U : Nat → Nat → Nat → Nat) (h : Nat) (P : StP) : StP := fun c' l' s' u' m' => ∃ (c l s u m : Nat) (a : Int), P c l s u m ∧ okA V a (l : Int) ((S : Int) - (s : Int)) ((G : Int) - (u : Int)) ∧ (c' : Int) = ccA V a (h : Int) (c : Int) (l : Int) ∧ (l' : Int) = clA V (h : Int) (lvA a (l : Int)) ∧ (s' : Int) = (s : Int) + (if a = 1 then 1 else 0) ∧ (u' : Int) = (u : Int) + (if a = 2 then 1 else 0) ∧ m' = U l' c' m
/-- bounds of the states of hour h -/
def PB (V : Vy) (S G n T L h : Nat) (P : StP) : Prop := ∀ c l s u m, P c l s u m → cOK (V.1 1) (V.1 2) (c : Int) ∧ l < n ∧ s ≤ S ∧ u ≤ G ∧ m < T ∧ s + u ≤ h ∧ hiL L s u - cgV V (h : Int) ≤ (l : Int) ∧ (l : Int) ≤ hiL L s u
/-- the states of the class are the set P -/
def bR (S G n T : Nat) (A : StF) (P : StP) : Prop := ∀ c l s u m, s ≤ S → u ≤ G → l < n → m < T → c < 64 → (tb (A s u l m) c = true ↔ P c l s u m)
theorem cg_key : ∀ q : Fin 25, ∀ h : Fin 25, 0 < q.val → ((h.val : Int) + 1) / (q.val : Int) = (h.val : Int) / (q.val : Int) + (if ((h.val : Int) + 1) % (q.val : Int) = 0 then 1 else 0) := by decide +kernel
section PUR
variable {V : Vy} {S G n T L h : Nat} {U : Nat → Nat → Nat → Nat} {P : StP} {k : Int} {ed : Int → Int64} {A : StF}
theorem cgV_n (hV : VOK V) (hh : (h : Int) < V.1 4) : cgV V ((h + 1 : Nat) : Int) = cgV V (h : Int) + coolV V (h : Int) := by
  have v4 := hV.2.2.2.1
  have v5 := hV.2.2.2.2.1
  unfold cgV coolV
  by_cases q : 0 < V.1 5
  · rw [if_pos q, if_pos q]
    have := cg_key ⟨(V.1 5).toNat, by omega⟩ ⟨h, by omega⟩ (by simp only; omega)
    simp only at this
    rw [show (((V.1 5).toNat : Nat) : Int) = V.1 5 by omega] at this
    rw [show ((h + 1 : Nat) : Int) = (h : Int) + 1 by omega, this]
    congr 1
    by_cases q2 : ((h : Int) + 1) % V.1 5 = 0
    · rw [if_pos q2, bI_t ⟨q, q2⟩]
    · rw [if_neg q2, bI_f (fun w => q2 w.2)]
  · rw [if_neg q, if_neg q, bI_f (fun w => q w.1)]
    rfl
theorem lv_c {a l : Int} : (a = 1 ∧ lvA a l = l + 1) ∨ (a = 2 ∧ lvA a l = l - 1) ∨ (a ≠ 1 ∧ a ≠ 2 ∧ lvA a l = l) := by
  unfold lvA
  by_cases q1 : a = 1
  · rw [if_pos q1]
    exact Or.inl ⟨q1, rfl⟩
  · rw [if_neg q1]
    by_cases q2 : a = 2
    · rw [if_pos q2]
      exact Or.inr (Or.inl ⟨q2, rfl⟩)
    · rw [if_neg q2]
      exact Or.inr (Or.inr ⟨q1, q2, rfl⟩)
theorem cl_c {l : Int} : (coolV V (h : Int) = 1 ∧ 0 < l ∧ clA V (h : Int) l = l - 1) ∨ (¬ (coolV V (h : Int) = 1 ∧ 0 < l) ∧ clA V (h : Int) l = l) := by
  unfold clA
  by_cases q : coolV V (h : Int) = 1 ∧ 0 < l
  · rw [if_pos q]
    exact Or.inl ⟨q.1, q.2, rfl⟩
  · rw [if_neg q]
    exact Or.inr ⟨q, rfl⟩
theorem Sx_PB (hV : VOK V) (hn : V.1 3 = (n : Int)) (hh : (h : Int) < V.1 4) (hU : ∀ l c m, l < n → c < 64 → m < T → U l c m < T) (hP : PB V S G n T L h P) : PB V S G n T L (h + 1) (Sx V S G U h P) := by
  have v1 := hV.1
  have v2 := hV.2.1
  have v3 := hV.2.2.1
  rintro c' l' s' u' m' ⟨c, l, s, u, m, a, p, ok, e1, e2, e3, e4, e5⟩
  obtain ⟨b1, b2, b3, b4, b5, b6, b7, b8⟩ := hP c l s u m p
  have cn := cgV_n hV hh
  have cb : coolV V (h : Int) = 0 ∨ coolV V (h : Int) = 1 := bI_01
  have ci : cOK (V.1 1) (V.1 2) (c' : Int) := by rw [e1]; exact crX_in b1 v1.2
  have c64 := cOK_64 ci v1.2 v2.2
  have lb : l' < n := by
    have := cl_c (V := V) (h := h) (l := lvA a (l : Int))
    have := lv_c (a := a) (l := (l : Int))
    unfold okA at ok
    omega
  refine ⟨ci, lb, ?_, ?_, by rw [e5]; exact hU l' c' m lb (by omega) b5, ?_, ?_, ?_⟩
  · unfold okA at ok
    split at e3 <;> omega
  · unfold okA at ok
    split at e4 <;> omega
  · split at e3 <;> split at e4 <;> omega
  · rw [cn]
    have := cl_c (V := V) (h := h) (l := lvA a (l : Int))
    have := lv_c (a := a) (l := (l : Int))
    unfold hiL at *
    split at e3 <;> split at e4 <;> omega
  · have := cl_c (V := V) (h := h) (l := lvA a (l : Int))
    have := lv_c (a := a) (l := (l : Int))
    unfold hiL at *
    split at e3 <;> split at e4 <;> omega
theorem caS_bit {wd dp w : Int} {x e : Int64} (hwd : wd ≤ 8) (w0 : 0 ≤ w) (w1 : w < 5) (eg : ∀ i : Nat, i < 64 → (tb e i = true ↔ cOK wd dp (i : Int) ∧ crX wd dp (i : Int) w = (i : Int))) (hx : ∀ i : Nat, i < 64 → tb x i = true → cOK wd dp (i : Int)) {i : Nat} (hi : i < 64) : tb (caS x e w) i = true ↔ ∃ c : Nat, c < 64 ∧ tb x c = true ∧ crX wd dp (c : Int) w = (i : Int) := by
  unfold caS
  rw [tb_or, Bool.or_eq_true, tb_and, Bool.and_eq_true, eg i hi, sh_bit w0 w1 hi]
  constructor
  · rintro (⟨a1, a2, a3⟩ | ⟨c, a1, a2, a3⟩)
    · exact ⟨i, hi, a1, a3⟩
    · rw [tb_and, tb_not a1, tb_and] at a2
      have xc : tb x c = true := by
        cases q : tb x c
        · rw [q] at a2
          cases a2
        · rfl
      have ne : tb e c ≠ true := fun q => by
        rw [xc, q] at a2
        cases a2
      have ok := hx c a1 xc
      have ns : ¬ crX wd dp (c : Int) w = (c : Int) := fun q => ne ((eg c a1).mpr ⟨ok, q⟩)
      have := crX_sh ok hwd w0 w1
      refine ⟨c, a1, xc, ?_⟩
      omega
  · rintro ⟨c, a1, a2, a3⟩
    have ok := hx c a1 a2
    by_cases q : crX wd dp (c : Int) w = (c : Int)
    · have e : c = i := by omega
      subst e
      exact Or.inl ⟨a2, ok, q⟩
    · refine Or.inr ⟨c, a1, ?_, ?_⟩
      · rw [tb_and, tb_not a1, tb_and, a2]
        cases q2 : tb e c
        · rfl
        · exact absurd ((eg c a1).mp q2).2 q
      · have := crX_sh ok hwd w0 w1
        omega
theorem x2_bits {s u : Nat} (k4 : ¬ k = 4) (hb : bR S G n T A P) (hs : s ≤ S) (hu : u ≤ G) {l t c : Nat} (hl : l < n) (ht : t < T) (hc : c < 64) : tb (x2R k n A s u l t) c = true ↔ P c l s u t ∨ (0 < s ∧ 0 < l ∧ P c (l - 1) (s - 1) u t) ∨ (0 < u ∧ l + 1 < n ∧ P c (l + 1) s (u - 1) t) := by
  have x1 : tb (x1R k A s u l t) c = true ↔ P c l s u t ∨ (0 < s ∧ 0 < l ∧ P c (l - 1) (s - 1) u t) := by
    unfold x1R
    by_cases q : 0 < s ∧ 0 < l
    · rw [if_pos q]
      unfold jnR
      rw [if_neg k4, tb_or, Bool.or_eq_true, hb c l s u t hs hu hl ht hc, hb c (l - 1) (s - 1) u t (by omega) hu (by omega) ht hc]
      constructor
      · rintro (w | w)
        · exact Or.inl w
        · exact Or.inr ⟨q.1, q.2, w⟩
      · rintro (w | w)
        · exact Or.inl w
        · exact Or.inr w.2.2
    · rw [if_neg q, hb c l s u t hs hu hl ht hc]
      constructor
      · exact Or.inl
      · rintro (w | w)
        · exact w
        · exact absurd ⟨w.1, w.2.1⟩ q
  unfold x2R
  by_cases q : 0 < u ∧ l + 1 < n
  · rw [if_pos q]
    unfold jnR
    rw [if_neg k4, tb_or, Bool.or_eq_true, x1, hb c (l + 1) s (u - 1) t hs (by omega) q.2 ht hc]
    constructor
    · rintro ((w | w) | w)
      · exact Or.inl w
      · exact Or.inr (Or.inl w)
      · exact Or.inr (Or.inr ⟨q.1, q.2, w⟩)
    · rintro (w | w | w)
      · exact Or.inl (Or.inl w)
      · exact Or.inl (Or.inr w)
      · exact Or.inr w.2.2
  · rw [if_neg q, x1]
    constructor
    · rintro (w | w)
      · exact Or.inl w
      · exact Or.inr (Or.inl w)
    · rintro (w | w | w)
      · exact Or.inl w
      · exact Or.inr w
      · exact absurd ⟨w.1, w.2.1⟩ q
/-- the act and the wind of an hour -/
def Sy (V : Vy) (S G h : Nat) (P : StP) (s' u' l' m c' : Nat) : Prop := ∃ (c l s u : Nat) (a : Int), P c l s u m ∧ okA V a (l : Int) ((S : Int) - (s : Int)) ((G : Int) - (u : Int)) ∧ (c' : Int) = crX (V.1 1) (V.1 2) (c : Int) (V.2.1 (l' : Int) (h : Int)) ∧ (l' : Int) = lvA a (l : Int) ∧ (s' : Int) = (s : Int) + (if a = 1 then 1 else 0) ∧ (u' : Int) = (u : Int) + (if a = 2 then 1 else 0)
theorem ps_bits (hV : VOK V) (hn : V.1 3 = (n : Int)) (hh : (h : Int) < V.1 4) (k4 : ¬ k = 4) (eg : ∀ w : Int, 0 ≤ w → w < 5 → ∀ i : Nat, i < 64 → (tb (ed w) i = true ↔ cOK (V.1 1) (V.1 2) (i : Int) ∧ crX (V.1 1) (V.1 2) (i : Int) w = (i : Int))) (hP : PB V S G n T L h P) (hb : bR S G n T A P) {s u l t c' : Nat} (hs : s ≤ S) (hu : u ≤ G) (hl : l < n) (ht : t < T) (hc : c' < 64) : tb (psB V k ed n h A s u (loL V L s u h) (hiL L s u) l t) c' = true ↔ Sy V S G h P s u l t c' := by
  have v1 := hV.1
  have v2 := hV.2.1
  have v3 := hV.2.2.1
  have wb := hV.2.2.2.2.2.2.2.2.2.1 (l : Int) (h : Int) (by omega) (by omega) (by omega) hh
  have cv : ∀ c : Nat, (P c l s u t ∨ (0 < s ∧ 0 < l ∧ P c (l - 1) (s - 1) u t) ∨ (0 < u ∧ l + 1 < n ∧ P c (l + 1) s (u - 1) t)) → (cOK (V.1 1) (V.1 2) (c : Int) ∧ c < 64) ∧ loL V L s u h ≤ (l : Int) ∧ (l : Int) ≤ hiL L s u := by
    intro c w
    unfold loL
    rcases w with w | ⟨q1, q2, w⟩ | ⟨q1, q2, w⟩
    · obtain ⟨b1, b2, b3, b4, b5, b6, b7, b8⟩ := hP _ _ _ _ _ w
      have := cOK_64 b1 v1.2 v2.2
      exact ⟨⟨b1, by omega⟩, by omega, by omega⟩
    · obtain ⟨b1, b2, b3, b4, b5, b6, b7, b8⟩ := hP _ _ _ _ _ w
      have := cOK_64 b1 v1.2 v2.2
      unfold hiL at *
      exact ⟨⟨b1, by omega⟩, by omega, by omega⟩
    · obtain ⟨b1, b2, b3, b4, b5, b6, b7, b8⟩ := hP _ _ _ _ _ w
      have := cOK_64 b1 v1.2 v2.2
      unfold hiL at *
      exact ⟨⟨b1, by omega⟩, by omega, by omega⟩
  have sy : Sy V S G h P s u l t c' ↔ ∃ c : Nat, (P c l s u t ∨ (0 < s ∧ 0 < l ∧ P c (l - 1) (s - 1) u t) ∨ (0 < u ∧ l + 1 < n ∧ P c (l + 1) s (u - 1) t)) ∧ crX (V.1 1) (V.1 2) (c : Int) (V.2.1 (l : Int) (h : Int)) = (c' : Int) := by
    unfold Sy
    constructor
    · rintro ⟨c, l0, s0, u0, a, p, ok, e1, e2, e3, e4⟩
      refine ⟨c, ?_, e1.symm⟩
      have b := hP _ _ _ _ _ p
      unfold okA at ok
      unfold lvA at e2
      rcases ok with rfl | ⟨rfl, o1, o2⟩ | ⟨rfl, o1, o2⟩
      · rw [if_neg (by omega), if_neg (by omega)] at e2
        rw [if_neg (by omega)] at e3 e4
        have x1 : l0 = l := by omega
        have x2 : s0 = s := by omega
        have x3 : u0 = u := by omega
        subst x1 x2 x3
        exact Or.inl p
      · rw [if_pos rfl] at e2 e3
        rw [if_neg (by omega)] at e4
        have x1 : l0 = l - 1 := by omega
        have x2 : s0 = s - 1 := by omega
        have x3 : u0 = u := by omega
        subst x1 x2 x3
        exact Or.inr (Or.inl ⟨by omega, by omega, p⟩)
      · rw [if_neg (by omega), if_pos rfl] at e2
        rw [if_neg (by omega)] at e3
        rw [if_pos rfl] at e4
        have x1 : l0 = l + 1 := by omega
        have x2 : s0 = s := by omega
        have x3 : u0 = u - 1 := by omega
        subst x1 x2 x3
        exact Or.inr (Or.inr ⟨by omega, by omega, p⟩)
    · rintro ⟨c, w | ⟨q1, q2, w⟩ | ⟨q1, q2, w⟩, e⟩
      · exact ⟨c, l, s, u, 0, w, Or.inl rfl, e.symm, rfl, by simp, by simp⟩
      · refine ⟨c, l - 1, s - 1, u, 1, w, Or.inr (Or.inl ⟨rfl, by omega, by omega⟩), e.symm, ?_, ?_, by simp⟩
        · unfold lvA
          rw [if_pos rfl]
          omega
        · rw [if_pos rfl]
          omega
      · have b := hP _ _ _ _ _ w
        refine ⟨c, l + 1, s, u - 1, 2, w, Or.inr (Or.inr ⟨rfl, by omega, by omega⟩), e.symm, ?_, by simp, ?_⟩
        · unfold lvA
          rw [if_neg (by omega), if_pos rfl]
          omega
        · rw [if_pos rfl]
          omega
  rw [sy]
  unfold psB
  by_cases q : loL V L s u h ≤ (l : Int) ∧ (l : Int) ≤ hiL L s u
  · rw [if_pos q]
    unfold cyR
    rw [if_neg k4, caS_bit v1.2 wb.1 wb.2 (eg _ wb.1 wb.2) (fun i hi w => ?_) hc]
    · constructor
      · rintro ⟨c, c1, c2, c3⟩
        exact ⟨c, (x2_bits k4 hb hs hu hl ht c1).mp c2, c3⟩
      · rintro ⟨c, c2, c3⟩
        have c1 := (cv c c2).1.2
        exact ⟨c, c1, (x2_bits k4 hb hs hu hl ht c1).mpr c2, c3⟩
    · exact (cv i ((x2_bits k4 hb hs hu hl ht hi).mp w)).1.1
  · rw [if_neg q, hb c' l s u t hs hu hl ht hc]
    constructor
    · intro w
      exact absurd (cv c' (Or.inl w)).2 q
    · rintro ⟨c, w, -⟩
      exact absurd (cv c w).2 q
theorem Sy_b (hV : VOK V) (hn : V.1 3 = (n : Int)) (hP : PB V S G n T L h P) {s u l t c' : Nat} (w : Sy V S G h P s u l t c') : (l < n ∧ s ≤ S ∧ u ≤ G ∧ t < T ∧ s + u ≤ h + 1) ∧ loL V L s u h ≤ (l : Int) ∧ (l : Int) ≤ hiL L s u := by
  obtain ⟨c, l0, s0, u0, a, p, ok, e1, e2, e3, e4⟩ := w
  have b := hP _ _ _ _ _ p
  have v3 := hV.2.2.1
  unfold okA at ok
  have := lv_c (a := a) (l := (l0 : Int))
  unfold loL hiL at *
  split at e3 <;> split at e4 <;> omega
theorem hk_bits (hV : VOK V) (hn : V.1 3 = (n : Int)) (hh : (h : Int) < V.1 4) (k4 : ¬ k = 4) (eg : ∀ w : Int, 0 ≤ w → w < 5 → ∀ i : Nat, i < 64 → (tb (ed w) i = true ↔ cOK (V.1 1) (V.1 2) (i : Int) ∧ crX (V.1 1) (V.1 2) (i : Int) w = (i : Int))) (hP : PB V S G n T L h P) (hb : bR S G n T A P) {s u l t c' : Nat} (hs : s ≤ S) (hu : u ≤ G) (hl : l < n) (ht : t < T) (hc : c' < 64) : tb (hrK V k ed n L h A s u l t) c' = true ↔ ∃ l1 : Nat, Sy V S G h P s u l1 t c' ∧ (l : Int) = clA V (h : Int) (l1 : Int) := by
  have v3 := hV.2.2.1
  unfold hrK
  by_cases q : coolV V (h : Int) = 1
  · rw [if_pos q]
    unfold skB
    by_cases q1 : l = 0
    · rw [if_pos q1]
      unfold jnR
      rw [if_neg k4, tb_or, Bool.or_eq_true, ps_bits hV hn hh k4 eg hP hb hs hu (by omega) ht hc, ps_bits hV hn hh k4 eg hP hb hs hu (by omega) ht hc]
      constructor
      · rintro (w | w)
        · refine ⟨0, w, ?_⟩
          have := cl_c (V := V) (h := h) (l := ((0 : Nat) : Int))
          omega
        · refine ⟨1, w, ?_⟩
          have := cl_c (V := V) (h := h) (l := ((1 : Nat) : Int))
          omega
      · rintro ⟨l1, w, e⟩
        have := cl_c (V := V) (h := h) (l := (l1 : Int))
        rcases (show l1 = 0 ∨ l1 = 1 by omega) with rfl | rfl
        · exact Or.inl w
        · exact Or.inr w
    · rw [if_neg q1]
      by_cases q2 : l + 1 < n
      · rw [if_pos q2, ps_bits hV hn hh k4 eg hP hb hs hu q2 ht hc]
        constructor
        · intro w
          refine ⟨l + 1, w, ?_⟩
          have := cl_c (V := V) (h := h) (l := ((l + 1 : Nat) : Int))
          omega
        · rintro ⟨l1, w, e⟩
          have := cl_c (V := V) (h := h) (l := (l1 : Int))
          rw [show l1 = l + 1 by omega] at w
          exact w
      · rw [if_neg q2, tb_0]
        constructor
        · intro w
          cases w
        · rintro ⟨l1, w, e⟩
          have := cl_c (V := V) (h := h) (l := (l1 : Int))
          have := Sy_b hV hn hP w
          omega
  · rw [if_neg q, ps_bits hV hn hh k4 eg hP hb hs hu hl ht hc]
    constructor
    · intro w
      refine ⟨l, w, ?_⟩
      have := cl_c (V := V) (h := h) (l := (l : Int))
      omega
    · rintro ⟨l1, w, e⟩
      have := cl_c (V := V) (h := h) (l := (l1 : Int))
      rw [show l1 = l by omega] at w
      exact w
theorem Sx_y {s u l m c : Nat} : Sx V S G U h P c l s u m ↔ ∃ l1 t : Nat, Sy V S G h P s u l1 t c ∧ (l : Int) = clA V (h : Int) (l1 : Int) ∧ U l c t = m := by
  constructor
  · rintro ⟨c0, l0, s0, u0, t, a, p, ok, e1, e2, e3, e4, e5⟩
    by_cases q : 0 ≤ lvA a (l0 : Int)
    · obtain ⟨l1, hl1⟩ : ∃ l1 : Nat, lvA a (l0 : Int) = (l1 : Int) := ⟨(lvA a (l0 : Int)).toNat, by omega⟩
      refine ⟨l1, t, ⟨c0, l0, s0, u0, a, p, ok, ?_, hl1.symm, e3, e4⟩, by rw [← hl1]; exact e2, e5.symm⟩
      rw [← hl1]
      exact e1
    · exfalso
      have := lv_c (a := a) (l := (l0 : Int))
      unfold okA at ok
      omega
  · rintro ⟨l1, t, ⟨c0, l0, s0, u0, a, p, ok, e1, e2, e3, e4⟩, e5, e6⟩
    refine ⟨c0, l0, s0, u0, t, a, p, ok, ?_, ?_, e3, e4, e6.symm⟩
    · unfold ccA
      rw [← e2]
      exact e1
    · rw [← e2]
      exact e5
theorem hr_bits (hV : VOK V) (hn : V.1 3 = (n : Int)) (hh : (h : Int) < V.1 4) (k4 : ¬ k = 4) (eg : ∀ w : Int, 0 ≤ w → w < 5 → ∀ i : Nat, i < 64 → (tb (ed w) i = true ↔ cOK (V.1 1) (V.1 2) (i : Int) ∧ crX (V.1 1) (V.1 2) (i : Int) w = (i : Int))) (hP : PB V S G n T L h P) (hb : bR S G n T A P) : bR S G n T (hrA V k ed n L h (ntU U T) A) (Sx V S G U h P) := by
  intro c l s u m hs hu hl hm hc
  rw [Sx_y]
  unfold hrA
  by_cases q : s + u ≤ h + 1
  · rw [if_pos q]
    unfold hrB
    by_cases q2 : lnL V L s u h ≤ (l : Int) ∧ (l : Int) ≤ hiL L s u
    · rw [if_pos q2, ntU_b hc]
      constructor
      · rintro ⟨t, h1, h2, h3⟩
        obtain ⟨l1, w, e⟩ := (hk_bits hV hn hh k4 eg hP hb hs hu hl h1 hc).mp h2
        exact ⟨l1, t, w, e, h3⟩
      · rintro ⟨l1, t, w, e, h3⟩
        have b := Sy_b hV hn hP w
        exact ⟨t, b.1.2.2.2.1, (hk_bits hV hn hh k4 eg hP hb hs hu hl b.1.2.2.2.1 hc).mpr ⟨l1, w, e⟩, h3⟩
    · have no : ∀ t l1 : Nat, Sy V S G h P s u l1 t c → ¬ (l : Int) = clA V (h : Int) (l1 : Int) := by
        intro t l1 w e
        have b := Sy_b hV hn hP w
        have := cl_c (V := V) (h := h) (l := (l1 : Int))
        refine q2 ?_
        unfold lnL
        split <;> omega
      rw [if_neg q2, hk_bits hV hn hh k4 eg hP hb hs hu hl hm hc]
      constructor
      · rintro ⟨l1, w, e⟩
        exact absurd e (no m l1 w)
      · rintro ⟨l1, t, w, e, -⟩
        exact absurd e (no t l1 w)
  · rw [if_neg q, hb c l s u m hs hu hl hm hc]
    constructor
    · intro w
      have b := hP _ _ _ _ _ w
      omega
    · rintro ⟨l1, t, w, -⟩
      have b := Sy_b hV hn hP w
      omega
end PUR
