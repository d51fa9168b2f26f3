/-! the class's Roamer: tours noted; all made ready -/
section NTT
variable {E : Ev} {B : Bk} {d p r S G L n T D : Nat} {V : Vy} {ed : Int → Int64} {k : Int} {A A' : StF} {h : Nat}
theorem s4_noteTours {s u l : Nat} {hh : Int} (R : RE E d p r) (c : RC B d p r V ed S G L T k) (k1 : k ≤ 1) (hV : VOK V) (hn : V.1 3 = (n : Int)) (hS : S ≤ 9) (hG : G ≤ 9) (hT : T = 2 ^ D) (hD : V.1 9 = (D : Int)) (hs : s ≤ S) (hu : u ≤ G) (hl : l < n) (h0 : -1 ≤ hh ∧ hh ≤ 99) (tk : tuK B r) (hA : stR B d S G n T A) : ∃ C, fX4_noteTours (E.1 + d) (iI (s : Int)) (iI (l : Int)) (iI ((plN G n T s u l 0 : Nat) : Int)) (iI hh) (St E B) = some (St E C) ∧ nF d r B C ∧ stR C d S G n T (upB A s u l (ntU (upD V) T l (A s u l))) ∧ tuK C r ∧ C.2.2.2.2 (r + 1) = B.2.2.2.2 (r + 1) ∧ ∀ m : Nat, m < 32 → tuT C r (m : Int) = (if m < T ∧ ¬ ntU (upD V) T l (A s u l) m = 0 then min (tuT B r (m : Int)) (s : Int) else tuT B r (m : Int)) ∧ tuH C r (m : Int) = (if m < T ∧ ¬ ntU (upD V) T l (A s u l) m = 0 then min (tuH B r (m : Int)) hh else tuH B r (m : Int)) := by
  have v3 := hV.2.2.1
  have v6 := hV.2.2.2.2.2.1
  have T0 := c.2.2.2.2.2.2.1
  have T1 := c.2.2.2.2.2.2.2
  have rr := R.2.2.2
  have top := plN_lt (G := G) (n := n) (T := T) (s := s) (u := u) (l := l) (t := T - 1) hG (by omega) T1 (by omega) hu hl (by omega)
  have pz := plN_0 (G := G) (n := n) (T := T) (s := s) (u := u) (l := l) (t := T - 1)
  have fin : ∀ C1, roF d B C1 → stR C1 d S G n T (upB A s u l (ntU (upD V) T l (A s u l))) → ∃ C, fX4_noteTours_b16 (E.1 + d) (iI (s : Int)) (iI ((plN G n T s u l 0 : Nat) : Int)) (iI hh) (St E C1) = some (St E C) ∧ nF d r B C ∧ stR C d S G n T (upB A s u l (ntU (upD V) T l (A s u l))) ∧ tuK C r ∧ C.2.2.2.2 (r + 1) = B.2.2.2.2 (r + 1) ∧ ∀ m : Nat, m < 32 → tuT C r (m : Int) = (if m < T ∧ ¬ ntU (upD V) T l (A s u l) m = 0 then min (tuT B r (m : Int)) (s : Int) else tuT B r (m : Int)) ∧ tuH C r (m : Int) = (if m < T ∧ ¬ ntU (upD V) T l (A s u l) m = 0 then min (tuH B r (m : Int)) hh else tuH B r (m : Int)) := by
    intro C1 f1 s1
    have c1 : RC C1 d p r V ed S G L T k := RC_nF R (nF_ro f1) c
    have eT : ∀ m : Int, tuT C1 r m = tuT B r m := fun m => by unfold tuT; rw [f1.2.2.2.1]
    have eH : ∀ m : Int, tuH C1 r m = tuH B r m := fun m => by unfold tuH; rw [f1.2.2.2.1]
    obtain ⟨C, g1, g2, g3, g4⟩ := s4_tour19 (a := ((plN G n T s u l 0 : Nat) : Int)) (s := (s : Int)) (hh := hh) R c1 k1 (fun z z0 z1 => by rw [eT, eH]; exact tk z z0 z1) (by omega) h0 (by omega)
    refine ⟨C, ?_, nF_tr (nF_ro f1) ⟨g2.1, g2.2.1, g2.2.2.1, g2.2.2.2.2, fun e _ _ => by rw [g2.2.2.2.1]⟩, ?_, g3, ?_, fun m hm => ?_⟩
    · unfold fX4_noteTours_b16
      rw [g1, some_bind]
    · intro s' u' l' t' a1 a2 a3 a4
      rw [g2.2.2.2.1]
      exact s1 s' u' l' t' a1 a2 a3 a4
    · rw [g2.2.2.2.1, f1.2.2.2.2 (r + 1) (by omega)]
    · have := g4 m hm
      rw [eT, eH] at this
      have ei : (m < T ∧ ¬ C1.2.2.2.2 (d + 1) (((plN G n T s u l 0 : Nat) : Int) + (m : Int)) = 0) ↔ (m < T ∧ ¬ ntU (upD V) T l (A s u l) m = 0) := by
        have key : m < T → C1.2.2.2.2 (d + 1) (((plN G n T s u l 0 : Nat) : Int) + (m : Int)) = ntU (upD V) T l (A s u l) m := fun w => by
          have p0 := plN_0 (G := G) (n := n) (T := T) (s := s) (u := u) (l := l) (t := m)
          rw [show ((plN G n T s u l 0 : Nat) : Int) + (m : Int) = ((plN G n T s u l m : Nat) : Int) by omega, s1 s u l m hs hu hl w]
          unfold upB
          rw [if_pos ⟨rfl, rfl, rfl⟩]
        constructor
        · rintro ⟨w1, w2⟩
          rw [key w1] at w2
          exact ⟨w1, w2⟩
        · rintro ⟨w1, w2⟩
          rw [key w1]
          exact ⟨w1, w2⟩
      simp only [ei] at this
      exact this
  have hd : fX4_noteTours (E.1 + d) (iI (s : Int)) (iI (l : Int)) (iI ((plN G n T s u l 0 : Nat) : Int)) (iI hh) (St E B) = if iI (V.1 6) < iI (l : Int) then fX4_noteTours_b16 (E.1 + d) (iI (s : Int)) (iI ((plN G n T s u l 0 : Nat) : Int)) (iI hh) (St E B) else (fX4_markDoors (E.1 + d) (iI ((plN G n T s u l 0 : Nat) : Int)) (St E B)).bind fun s12 => fX4_noteTours_b16 (E.1 + d) (iI (s : Int)) (iI ((plN G n T s u l 0 : Nat) : Int)) (iI hh) s12 := by
    unfold fX4_noteTours
    rw [c4 R.1.1, some_bind, g4_4 R.1.1 c.1.1, some_bind, g6_6 R.2.1.1, some_bind, RC_v c]
  rw [hd]
  by_cases q : (l : Int) ≤ V.1 6
  · rw [if_neg (by rw [iI_lt (by omega) (by omega) (by omega) (by omega)]; omega)]
    obtain ⟨C1, e1, e2, e3, e4⟩ := s4_markDoors (a := ((plN G n T s u l 0 : Nat) : Int)) R c hV hT hD (by omega)
    rw [e1, some_bind]
    refine fin C1 e2 (stR_up hA hu hl (fun t ht => ?_) e3)
    refine tb_iff (fun i hi => ?_)
    have p0 := plN_0 (G := G) (n := n) (T := T) (s := s) (u := u) (l := l) (t := t)
    rw [show ((plN G n T s u l t : Nat) : Int) = ((plN G n T s u l 0 : Nat) : Int) + (t : Int) by omega, e4 t ht i hi, ntU_b hi]
    unfold upD
    rw [hD, Int.toNat_natCast]
    constructor
    · rintro ⟨t0, h1, h2, h3⟩
      have p1 := plN_0 (G := G) (n := n) (T := T) (s := s) (u := u) (l := l) (t := t0)
      rw [show ((plN G n T s u l 0 : Nat) : Int) + (t0 : Int) = ((plN G n T s u l t0 : Nat) : Int) by omega, hA s u l t0 hs hu hl h1] at h2
      exact ⟨t0, h1, h2, by rw [if_pos q]; exact h3⟩
    · rintro ⟨t0, h1, h2, h3⟩
      have p1 := plN_0 (G := G) (n := n) (T := T) (s := s) (u := u) (l := l) (t := t0)
      rw [if_pos q] at h3
      refine ⟨t0, h1, ?_, h3⟩
      rw [show ((plN G n T s u l 0 : Nat) : Int) + (t0 : Int) = ((plN G n T s u l t0 : Nat) : Int) by omega, hA s u l t0 hs hu hl h1]
      exact h2
  · rw [if_pos (by rw [iI_lt (by omega) (by omega) (by omega) (by omega)]; omega)]
    refine fin B roF_rfl (upB_id hA (fun t ht => ntU_id (fun c t => ?_) ht))
    unfold upD
    rw [if_neg q]
def SdT (B0 : Bk) (r T : Nat) (hh : Int) (A' : StF) (D : Nat → Nat → Nat → Prop) (B : Bk) : Prop := B.2.2.2.2 (r + 1) = B0.2.2.2.2 (r + 1) ∧ tuK B r ∧ ∀ m : Nat, m < 32 → mnP (tuT B r (m : Int)) (tuT B0 r (m : Int)) (fun y => ∃ s u l, D s u l ∧ (m < T ∧ ¬ A' s u l m = 0) ∧ y = (s : Int)) ∧ mnP (tuH B r (m : Int)) (tuH B0 r (m : Int)) (fun y => ∃ s u l, D s u l ∧ (m < T ∧ ¬ A' s u l m = 0) ∧ y = hh)
theorem SdT_ro {B0 C : Bk} {hh : Int} {Dn : Nat → Nat → Nat → Prop} (R : RE E d p r) (f : roF d B C) (w : SdT B0 r T hh A' Dn B) : SdT B0 r T hh A' Dn C := by
  have rr := R.2.2.2
  have eT : ∀ m : Int, tuT C r m = tuT B r m := fun m => by unfold tuT; rw [f.2.2.2.1]
  have eH : ∀ m : Int, tuH C r m = tuH B r m := fun m => by unfold tuH; rw [f.2.2.2.1]
  refine ⟨by rw [f.2.2.2.2 (r + 1) (by omega)]; exact w.1, fun z z0 z1 => by rw [eT, eH]; exact w.2.1 z z0 z1, fun m hm => ?_⟩
  rw [eT, eH]
  exact w.2.2 m hm
theorem NT_tours {B0 : Bk} (R : RE E d p r) (hV : VOK V) (hn : V.1 3 = (n : Int)) (hS : S ≤ 9) (hG : G ≤ 9) (hT : T = 2 ^ D) (hD : V.1 9 = (D : Int)) (hh : h < 24) : NT E d p r S G n T V ed L 1 h (ntU (upD V) T) A' (SdT B0 r T (h : Int) A') := by
  intro B A Dn s u l hs hu hl c hA eA w
  have v3 := hV.2.2.1
  have T1 := c.2.2.2.2.2.2.2
  obtain ⟨C, e1, e2, e3, e4, e5, e6⟩ := s4_noteTours (s := s) (u := u) (l := l) (hh := (h : Int)) R c (by omega) hV hn hS hG hT hD hs hu hl (by omega) w.2.1 hA
  refine ⟨C, ?_, e2, e3, by rw [e5]; exact w.1, e4, fun m hm => ?_⟩
  · rw [s4_nH R c hn, if_neg (by decide), if_pos rfl, e1, some_bind]
  · obtain ⟨t1, t2⟩ := e6 m hm
    obtain ⟨w1, w2⟩ := w.2.2 m hm
    have ei : (m < T ∧ ¬ ntU (upD V) T l (A s u l) m = 0) ↔ (m < T ∧ ¬ A' s u l m = 0) := by
      constructor
      · rintro ⟨a, b⟩
        rw [eA m a] at b
        exact ⟨a, b⟩
      · rintro ⟨a, b⟩
        rw [eA m a]
        exact ⟨a, b⟩
    simp only [ei] at t1 t2
    by_cases q : m < T ∧ ¬ A' s u l m = 0
    · rw [if_pos q] at t1 t2
      rw [t1, t2]
      refine ⟨mnP_add w1 (fun z => ?_), mnP_add w2 (fun z => ?_)⟩
      · constructor
        · rintro ⟨s', u', l', a | ⟨rfl, rfl, rfl⟩, b, rfl⟩
          · exact Or.inl ⟨s', u', l', a, b, rfl⟩
          · exact Or.inr rfl
        · rintro (⟨s', u', l', a, b, rfl⟩ | rfl)
          · exact ⟨s', u', l', Or.inl a, b, rfl⟩
          · exact ⟨s, u, l, Or.inr ⟨rfl, rfl, rfl⟩, q, rfl⟩
      · constructor
        · rintro ⟨s', u', l', a | ⟨rfl, rfl, rfl⟩, b, rfl⟩
          · exact Or.inl ⟨s', u', l', a, b, rfl⟩
          · exact Or.inr rfl
        · rintro (⟨s', u', l', a, b, rfl⟩ | rfl)
          · exact ⟨s', u', l', Or.inl a, b, rfl⟩
          · exact ⟨s, u, l, Or.inr ⟨rfl, rfl, rfl⟩, q, rfl⟩
    · rw [if_neg q] at t1 t2
      rw [t1, t2]
      refine ⟨mnP_iff w1 (fun z => ?_), mnP_iff w2 (fun z => ?_)⟩
      · constructor
        · rintro ⟨s', u', l', a | ⟨rfl, rfl, rfl⟩, b, e⟩
          · exact ⟨s', u', l', a, b, e⟩
          · exact absurd b q
        · rintro ⟨s', u', l', a, b, e⟩
          exact ⟨s', u', l', Or.inl a, b, e⟩
      · constructor
        · rintro ⟨s', u', l', a | ⟨rfl, rfl, rfl⟩, b, e⟩
          · exact ⟨s', u', l', a, b, e⟩
          · exact absurd b q
        · rintro ⟨s', u', l', a, b, e⟩
          exact ⟨s', u', l', Or.inl a, b, e⟩
/-- what making ready changes -/
def prF (d : Nat) (B C : Bk) : Prop := (∀ e j, ¬ (e = d ∧ 6 ≤ j ∧ j ≤ 10) → C.1 e j = B.1 e j) ∧ (∀ e j, ¬ (e = d + 2 ∧ j = 1) → C.2.1 e j = B.2.1 e j) ∧ (∀ e j, ¬ (e = d ∧ j = 4) → C.2.2.1 e j = B.2.2.1 e j) ∧ C.2.2.2.1 = B.2.2.2.1 ∧ ∀ e, e ≠ d + 1 → e ≠ d + 3 → C.2.2.2.2 e = B.2.2.2.2 e
def stA0 (V : Vy) (i : Int) (k : Int) (L : Nat) : StF := fun s u l t => if s = 0 ∧ u = 0 ∧ l = L ∧ t = 0 then (if k = 4 then 1 else lsh 1 (iI (scV V i))) else 0
theorem s4_prepare {i T' : Int} (R : RE E d p r) (hw : VW B p) (eV : vyN B p = V) (N : RN V i S G L n) (k0 : 0 ≤ k ∧ k ≤ 4) (kr : k ≤ 1 → B.2.2.1 d 5 = some r) (eT : (T : Int) = max 1 (min T' 32)) (T0 : -1000 ≤ T' ∧ T' ≤ 1000) : ∃ C ed, fX4_prepare (E.1 + d) (E.1 + p) (iI i) (iI k) (iI T') (St E B) = some (St E C) ∧ prF d B C ∧ RC C d p r V ed S G L T k ∧ stR C d S G n T (stA0 V i k L) := by
  obtain ⟨hV, i0, eS, eG, eL, hn, hS, hG⟩ := N
  have v3 := hV.2.2.1
  have v8 := hV.2.2.2.2.2.2.2.1
  have sb := hV.2.2.2.2.2.2.2.2.2.2.1 i i0.1 i0.2
  have rr := R.2.2.2
  have kd := R.1.1
  have fS : ∀ j, B.2.2.2.1 (p + 2) (i * 6 + j) = V.2.2.1 i j := fun j => by rw [← eV]; rfl
  obtain ⟨B1, hB1⟩ : ∃ B1, B1 = wI (wI (wI (wI (wI (wR B d 4 (some p)) d 10 k) d 9 (T : Int)) d 6 (L : Int)) d 7 (S : Int)) d 8 (G : Int) := ⟨_, rfl⟩
  have q1 : ∀ e j, ¬ (e = d ∧ 6 ≤ j ∧ j ≤ 10) → B1.1 e j = B.1 e j := fun e j q => by
    rw [hB1, wI_1, if_neg (by omega), wI_1, if_neg (by omega), wI_1, if_neg (by omega), wI_1, if_neg (by omega), wI_1, if_neg (by omega), wR_1]
  have q2 : B1.2.2.2 = B.2.2.2 := by rw [hB1]; rfl
  have q3 : B1.2.1 = B.2.1 := by rw [hB1]; rfl
  have q4 : ∀ e j, ¬ (e = d ∧ j = 4) → B1.2.2.1 e j = B.2.2.1 e j := fun e j q => by
    rw [hB1]
    show (if e = d ∧ j = 4 then some p else B.2.2.1 e j) = _
    rw [if_neg q]
  have q5 : B1.2.2.1 d 4 = some p := by
    rw [hB1]
    show (if d = d ∧ 4 = 4 then some p else B.2.2.1 d 4) = _
    rw [if_pos ⟨rfl, rfl⟩]
  have w1 : VW B1 p := VW_eq (fun j => q1 p j (by omega)) hw
  obtain ⟨C2, g1, g2, g3⟩ := s0_fit (E := E) (B := B1) (d := d + 2) (p := p) R.1.2.2.1 R.1.2.2.2 R.2.1 w1
  have z1 : ∀ j, C2.1 d j = B1.1 d j := fun j => by rw [g2.1]
  have d6 : C2.1 d 6 = (L : Int) := by rw [z1, hB1, wI_1, if_neg (by omega), wI_1, if_neg (by omega), wI_1, if_pos ⟨rfl, rfl⟩]
  have d7 : C2.1 d 7 = (S : Int) := by rw [z1, hB1, wI_1, if_neg (by omega), wI_1, if_pos ⟨rfl, rfl⟩]
  have d8 : C2.1 d 8 = (G : Int) := by rw [z1, hB1, wI_1, if_pos ⟨rfl, rfl⟩]
  have d9 : C2.1 d 9 = (T : Int) := by rw [z1, hB1, wI_1, if_neg (by omega), wI_1, if_neg (by omega), wI_1, if_neg (by omega), wI_1, if_pos ⟨rfl, rfl⟩]
  have d10 : C2.1 d 10 = k := by rw [z1, hB1, wI_1, if_neg (by omega), wI_1, if_neg (by omega), wI_1, if_neg (by omega), wI_1, if_neg (by omega), wI_1, if_pos ⟨rfl, rfl⟩]
  have dp : ∀ j, C2.1 p j = V.1 j := fun j => by rw [g2.1, q1 p j (by omega), ← eV]; rfl
  have dv : C2.2.2.1 d 4 = some p := by rw [g2.2.2.1]; exact q5
  obtain ⟨c, hc⟩ : ∃ c : Nat, c = (S + 1) * (G + 1) * n * T := ⟨_, rfl⟩
  have hci : ((S : Int) + 1) * ((G : Int) + 1) * (n : Int) * (T : Int) = (c : Int) := by rw [hc]; push_cast; rfl
  have a1 : (S + 1) * (G + 1) ≤ 10 * 10 := Nat.mul_le_mul (by omega) (by omega)
  have a2 : (S + 1) * (G + 1) * n ≤ 100 * 5 := Nat.mul_le_mul (by omega) (by omega)
  have a3 : (S + 1) * (G + 1) * n * T ≤ 500 * 32 := Nat.mul_le_mul (by omega) (by omega)
  have zl : iter (fX4_prepare_l66 (E.1 + d) (E.1 + p) (iI i) (iI k)) FU (iI 0, St E C2) = some (St E (flJ C2 (d + 1) (c : Int) 0)) := by
    have := iter_for (F := fX4_prepare_l66 (E.1 + d) (E.1 + p) (iI i) (iI k)) (fun j => (iI j, St E (flJ C2 (d + 1) j 0))) 0 (c : Int) (St E (flJ C2 (d + 1) (c : Int) 0)) (fun j j0 j1 => by
      have e1 := s4_blockCount (E := E) (B := flJ C2 (d + 1) j 0) kd R.2.1.1 dv
      rw [show (flJ C2 (d + 1) j 0).1 = C2.1 from rfl, d7, d8, dp, hn] at e1
      have e9 : (flJ C2 (d + 1) j 0).1 d 9 = (T : Int) := d9
      unfold fX4_prepare_l66
      dsimp only
      rw [e1, some_bind]
      dsimp only
      rw [g4_9 kd, some_bind, e9, iI_mul, hci, if_neg (by rw [iI_le (by omega) (by omega) (by omega) (by omega)]; omega), g4_0 kd, some_bind, sL_ok R.1.2.1 (by omega) (by omega) (by omega), some_bind, flJ_s j0, iI_add]) (by
      have e1 := s4_blockCount (E := E) (B := flJ C2 (d + 1) (c : Int) 0) kd R.2.1.1 dv
      rw [show (flJ C2 (d + 1) (c : Int) 0).1 = C2.1 from rfl, d7, d8, dp, hn] at e1
      have e9 : (flJ C2 (d + 1) (c : Int) 0).1 d 9 = (T : Int) := d9
      unfold fX4_prepare_l66
      dsimp only
      rw [e1, some_bind]
      dsimp only
      rw [g4_9 kd, some_bind, e9, iI_mul, hci, if_pos (by rw [iI_le (by omega) (by omega) (by omega) (by omega)]; omega)]) (by omega) (N := FU) (FU_big (by omega))
    rw [flJ_0] at this
    exact this
  obtain ⟨C3, hC3⟩ : ∃ C3, C3 = flJ C2 (d + 1) (c : Int) 0 := ⟨_, rfl⟩
  rw [← hC3] at zl
  have e31 : C3.1 = C2.1 := by rw [hC3]; rfl
  have e34 : C3.2.2.1 d 4 = some p := by rw [hC3]; exact dv
  have pl := plN_lt (G := G) (n := n) (T := T) (s := 0) (u := 0) (l := L) (t := 0) hG (by omega) (by omega) (by omega) (by omega) (by omega) (by omega)
  have po : fX4_placeOf (E.1 + d) (iI 0) (iI 0) (iI (L : Int)) (St E C3) = some (iI ((plN G n T 0 0 L 0 : Nat) : Int), St E C3) := by
    have := s4_placeOf (E := E) (B := C3) (d := d) (p := p) (s := ((0 : Nat) : Int)) (u := ((0 : Nat) : Int)) (l := (L : Int)) kd R.2.1.1 e34
    rw [e31, d8, d9, dp, hn, plR_N] at this
    exact this
  obtain ⟨v0, hv0⟩ : ∃ v0 : Int64, v0 = if k = 4 then 1 else lsh 1 (iI (scV V i)) := ⟨_, rfl⟩
  refine ⟨wJ C3 (d + 1) ((plN G n T 0 0 L 0 : Nat) : Int) v0, C2.2.2.2.2 (d + 3), ?_, ?_, ?_, ?_⟩
  · unfold fX4_prepare
    rw [c4 kd, some_bind, p4_4 kd, some_bind, p4_10 kd, some_bind, imin_ok (by omega) (by omega) (by omega) (by omega), imax_ok (by omega) (by omega) (by omega) (by omega), ← eT, p4_9 kd, some_bind, s_shopFact R.2.1 i0.1 (by omega) (by omega) (by omega), some_bind]
    dsimp only
    rw [show (wI (wI (wR B d 4 (some p)) d 10 k) d 9 (T : Int)).2.2.2.1 = B.2.2.2.1 from rfl, fS, eL, p4_6 kd, some_bind, s_shopFact R.2.1 i0.1 (by omega) (by omega) (by omega), some_bind]
    dsimp only
    rw [show (wI (wI (wI (wR B d 4 (some p)) d 10 k) d 9 (T : Int)) d 6 (L : Int)).2.2.2.1 = B.2.2.2.1 from rfl, fS, eS, p4_7 kd, some_bind, s_shopFact R.2.1 i0.1 (by omega) (by omega) (by omega), some_bind]
    dsimp only
    rw [show (wI (wI (wI (wI (wR B d 4 (some p)) d 10 k) d 9 (T : Int)) d 6 (L : Int)) d 7 (S : Int)).2.2.2.1 = B.2.2.2.1 from rfl, fS, eG, p4_8 kd, some_bind, ← hB1, g4_1 kd, some_bind, g1, some_bind, zl, some_bind, g4_0 kd, some_bind, g4_6 kd, some_bind, e31, d6, po, some_bind]
    dsimp only
    unfold fX4_prepare_b125
    by_cases q : k = 4
    · rw [if_pos (by rw [q]), sL_ok R.1.2.1 (by omega) (by omega) (by omega), some_bind, hv0, if_pos q]
    · have sc : C3.2.2.2.1 (p + 2) (i * 6 + 1) * 8 + C3.2.2.2.1 (p + 2) (i * 6) = scV V i := by
        rw [hC3]
        show C2.2.2.2.1 (p + 2) (i * 6 + 1) * 8 + C2.2.2.2.1 (p + 2) (i * 6) = _
        rw [g2.2.2.2.1, q2, fS, show B.2.2.2.1 (p + 2) (i * 6) = V.2.2.1 i 0 by rw [← fS 0, Int.add_zero]]
        rfl
      rw [if_neg (fun w => q ((iI_eq (by omega) (by omega) (by omega) (by omega)).mp w)), s_shopColumn R.2.1 i0.1 (by omega), some_bind, sc, s8_bitO, some_bind]
      dsimp only
      rw [sL_ok R.1.2.1 (by omega) (by omega) (by omega), some_bind, hv0, if_neg q]
  · refine ⟨fun e j q => ?_, fun e j q => ?_, fun e j q => ?_, ?_, fun e e1 e2 => ?_⟩
    · rw [wJ_1, e31, g2.1, q1 e j q]
    · rw [wJ_2, hC3]
      show C2.2.1 e j = _
      rw [g2.2.1 e j (by omega), q3]
    · rw [wJ_3, hC3]
      show C2.2.2.1 e j = _
      rw [g2.2.2.1, q4 e j q]
    · rw [wJ_4, hC3]
      show C2.2.2.2.1 = _
      rw [g2.2.2.2.1, q2]
    · funext z
      rw [wJ_5, if_neg (fun a => e1 a.1), hC3]
      show (if e = d + 1 ∧ 0 ≤ z ∧ z < (c : Int) then 0 else C2.2.2.2.2 e z) = _
      rw [if_neg (fun a => e1 a.1), g2.2.2.2.2 e (by omega), q2]
  · refine ⟨⟨?_, fun q => ?_⟩, ?_, ?_, ?_, ⟨?_, ?_⟩, k0, by omega, by omega⟩
    · rw [wJ_3]
      exact e34
    · rw [wJ_3, hC3]
      show C2.2.2.1 d 5 = _
      rw [g2.2.2.1, q4 d 5 (by omega)]
      exact kr q
    · rw [wJ_1, e31]
      exact ⟨d6, d7, d8, d9, d10⟩
    · exact VW_eq (fun j => by rw [wJ_1, e31, g2.1]) w1
    · rw [← eV]
      refine vyN_eq (fun j => ?_) (fun k' z a b => ?_)
      · rw [wJ_1, e31, g2.1, q1 p j (by omega)]
      · rw [wJ_4, hC3]
        show C2.2.2.2.1 k' z = _
        rw [g2.2.2.2.1, q2]
    · funext z
      rw [wJ_5, if_neg (by omega), hC3]
      show (if d + 3 = d + 1 ∧ 0 ≤ z ∧ z < (c : Int) then 0 else C2.2.2.2.2 (d + 3) z) = _
      rw [if_neg (by omega)]
    · have b1 : B1.1 p 1 = V.1 1 := by rw [← dp 1, g2.1]
      have b2 : B1.1 p 2 = V.1 2 := by rw [← dp 2, g2.1]
      rw [b1, b2] at g3
      have r1 : (wJ C3 (d + 1) ((plN G n T 0 0 L 0 : Nat) : Int) v0).2.1 = C2.2.1 := by rw [wJ_2, hC3]; rfl
      have r2 : (wJ C3 (d + 1) ((plN G n T 0 0 L 0 : Nat) : Int) v0).2.2.2.2 (d + 2 + 1) = C2.2.2.2.2 (d + 2 + 1) := by
        funext z
        rw [wJ_5, if_neg (by omega), hC3]
        show (if d + 2 + 1 = d + 1 ∧ 0 ≤ z ∧ z < (c : Int) then 0 else C2.2.2.2.2 (d + 2 + 1) z) = _
        rw [if_neg (by omega)]
      unfold brI at g3 ⊢
      rw [r1, r2]
      exact g3
  · intro s u l t hs hu hl ht
    rw [wJ_5]
    unfold stA0
    by_cases q : s = 0 ∧ u = 0 ∧ l = L ∧ t = 0
    · rw [if_pos q, if_pos ⟨rfl, by rw [q.1, q.2.1, q.2.2.1, q.2.2.2]⟩, hv0]
    · rw [if_neg q, if_neg (fun a => q (by
        have e : plN G n T s u l t = plN G n T 0 0 L 0 := by have := a.2; omega
        exact plN_inj hu hl ht (by omega) (by omega) (by omega) e)), hC3]
      show (if d + 1 = d + 1 ∧ 0 ≤ ((plN G n T s u l t : Nat) : Int) ∧ ((plN G n T s u l t : Nat) : Int) < (c : Int) then 0 else C2.2.2.2.2 (d + 1) ((plN G n T s u l t : Nat) : Int)) = 0
      have b1 : s * (G + 1) + u < (S + 1) * (G + 1) := dm_lt (by omega) (by omega)
      have b2 : (s * (G + 1) + u) * n + l < (S + 1) * (G + 1) * n := dm_lt b1 hl
      have b3 : ((s * (G + 1) + u) * n + l) * T + t < (S + 1) * (G + 1) * n * T := dm_lt b2 ht
      have b4 : plN G n T s u l t < c := by rw [hc]; exact b3
      rw [if_pos ⟨rfl, by omega, by omega⟩]
end NTT
