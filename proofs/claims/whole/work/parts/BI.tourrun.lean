/-! the class's Roamer: tours of a shop, hour by hour -/
theorem mnP_tr {x x1 x0 : Int} {P Q R : Int → Prop} (h : mnP x1 x0 P) (g : mnP x x1 Q) (e : ∀ y, R y ↔ P y ∨ Q y) : mnP x x0 R := by
  obtain ⟨h1, h2, h3⟩ := h
  obtain ⟨g1, g2, g3⟩ := g
  refine ⟨?_, by omega, fun y w => ?_⟩
  · rcases g1 with w | w
    · rw [w]
      rcases h1 with w2 | w2
      · exact Or.inl w2
      · exact Or.inr ((e _).mpr (Or.inl w2))
    · exact Or.inr ((e _).mpr (Or.inr w))
  · rcases (e y).mp w with w | w
    · have := h3 y w
      omega
    · exact g3 y w
section TRN
variable {E : Ev} {B : Bk} {d p r S G L n T D c0 : Nat} {V : Vy} {ed : Int → Int64} {k i : Int} {A : StF}
theorem upD_lt {l c m : Nat} (hT : T = 2 ^ D) (hD : V.1 9 = (D : Int)) (hm : m < T) : upD V l c m < T := by
  unfold upD
  split
  · rw [hT] at hm ⊢
    exact Nat.or_lt_two_pow hm (dmN_lt (by omega))
  · exact hm
/-- tours told by now: of sets that are just so, behind j hours -/
def TSI (B : Bk) (r : Nat) (V : Vy) (S G L c0 j : Nat) : Prop := tuK B r ∧ ∀ m : Nat, m < 32 → mnP (tuT B r (m : Int)) 99 (fun y => ∃ h c l s u, h ≤ j ∧ Pt V S G (upD V) 0 (iP c0 L (upD V L c0 0)) h c l s u m ∧ y = (s : Int)) ∧ mnP (tuH B r (m : Int)) 99 (fun y => ∃ h c l s u, h ≤ j ∧ Pt V S G (upD V) 0 (iP c0 L (upD V L c0 0)) h c l s u m ∧ y = (h : Int) - 1)
theorem nz_bits {x : Int64} {P : Nat → Prop} (h : ∀ c, c < 64 → (tb x c = true ↔ P c)) (h64 : ∀ c, P c → c < 64) : ¬ x = 0 ↔ ∃ c, P c := by
  constructor
  · intro w
    obtain ⟨c, h1, h2⟩ := tb_nz w
    exact ⟨c, (h c h1).mp h2⟩
  · rintro ⟨c, w⟩ e
    have := (h c (h64 c w)).mpr w
    rw [e, tb_0] at this
    cases this
theorem start_bR {U : Nat → Nat → Nat → Nat} (hb : bR S G n T A (iP c0 L 0)) (T0 : 1 ≤ T) (hL : L < n) : bR S G n T (upB A 0 0 L (ntU U T L (A 0 0 L))) (iP c0 L (U L c0 0)) := by
  intro c l s u m hs hu hl hm hc
  unfold upB
  by_cases q : s = 0 ∧ u = 0 ∧ l = L
  · rw [if_pos q, ntU_b hc]
    obtain ⟨rfl, rfl, rfl⟩ := q
    constructor
    · rintro ⟨t0, h1, h2, h3⟩
      obtain ⟨rfl, -, -, -, rfl⟩ := (hb c l 0 0 t0 (by omega) (by omega) hl h1 hc).mp h2
      exact ⟨rfl, rfl, rfl, rfl, h3.symm⟩
    · rintro ⟨rfl, -, -, -, rfl⟩
      exact ⟨0, by omega, (hb c l 0 0 0 (by omega) (by omega) hl (by omega) hc).mpr ⟨rfl, rfl, rfl, rfl, rfl⟩, rfl⟩
  · rw [if_neg q, hb c l s u m hs hu hl hm hc]
    constructor
    · rintro ⟨rfl, rfl, rfl, rfl, rfl⟩
      exact absurd ⟨rfl, rfl, rfl⟩ q
    · rintro ⟨rfl, rfl, rfl, rfl, rfl⟩
      exact absurd ⟨rfl, rfl, rfl⟩ q
theorem s4_tourRun {x3 : Int32} (R : RE E d p r) (N : RN V i S G L n) (hc0 : scV V i = (c0 : Int)) (hT : T = 2 ^ D) (hD : V.1 9 = (D : Int)) (c : RC B d p r V ed S G L T 1) (hA : stR B d S G n T (upB (stA0 V i 1 L) 0 0 L (ntU (upD V) T L (stA0 V i 1 L 0 0 L)))) (ht : TSI B r V S G L c0 0) : ∃ C, iter (fX4_toursOf_l64 (E.1 + d) (E.1 + p) x3) FU (iI 0, St E B) = some (St E C) ∧ (nF d r B C ∧ C.2.2.2.2 (r + 1) = B.2.2.2.2 (r + 1)) ∧ RC C d p r V ed S G L T 1 ∧ TSI C r V S G L c0 (V.1 4).toNat := by
  obtain ⟨c0', hc0', c64, cok, hL⟩ := scV_b N
  have ec : c0' = c0 := by omega
  subst ec
  obtain ⟨hV, i0, eS, eG, eL, hn, hS, hG⟩ := N
  have v1 := hV.1
  have v2 := hV.2.1
  have v3 := hV.2.2.1
  have v4 := hV.2.2.2.1
  have T0 := c.2.2.2.2.2.2.1
  have T1 := c.2.2.2.2.2.2.2
  have eg := RC_eg c
  have hU : ∀ l c m, l < n → c < 64 → m < T → upD V l c m < T := fun l c m _ _ h => upD_lt hT hD h
  have pb : ∀ {j : Nat}, (j : Int) ≤ V.1 4 → PB V S G n T L j (Pt V S G (upD V) 0 (iP c0' L (upD V L c0' 0)) j) := fun hj => Pt_PB hV hn hU (iP_PB cok hL (hU L c0' 0 hL c64 (by omega))) hj
  obtain ⟨z, e1, C, rfl, f1, w1⟩ := iter_acc (F := fX4_toursOf_l64 (E.1 + d) (E.1 + p) x3) (fun j a => ∃ C, a = (iI (j : Int), St E C) ∧ (nF d r B C ∧ C.2.2.2.2 (r + 1) = B.2.2.2.2 (r + 1)) ∧ TSI C r V S G L c0' j ∧ ∃ A, stR C d S G n T A ∧ bR S G n T A (Pt V S G (upD V) 0 (iP c0' L (upD V L c0' 0)) j)) (V.1 4).toNat (fun q => ∃ C, q = St E C ∧ (nF d r B C ∧ C.2.2.2.2 (r + 1) = B.2.2.2.2 (r + 1)) ∧ TSI C r V S G L c0' (V.1 4).toNat)
    (fun j a hj ha => by
      obtain ⟨C, rfl, ⟨f1, f1'⟩, w1, A, s1, b1⟩ := ha
      have cc := RC_nF R f1 c
      have pj := pb (j := j) (by omega)
      have pn := pb (j := j + 1) (by omega)
      have hb := hr_bits (U := upD V) (k := 1) hV hn (by omega) (by decide) eg pj b1
      obtain ⟨C', g1, g2, g3, g4⟩ := s4_passHour (h := j) (A := A) R cc hV hn hL hS hG (by omega) (NT_tours (B0 := C) R hV hn hS hG hT hD (by omega)) (fun D B C f w => SdT_ro R f w) s1 ⟨rfl, w1.1, fun m hm => ⟨mnP_0 (fun y w => by obtain ⟨s, u, l, w, -⟩ := w; exact w), mnP_0 (fun y w => by obtain ⟨s, u, l, w, -⟩ := w; exact w)⟩⟩
      have key : ∀ (m s : Nat), (∃ u l, DnA V S G L n j (fun _ _ => True) s u l ∧ (m < T ∧ ¬ hrA V 1 ed n L j (ntU (upD V) T) A s u l m = 0)) ↔ ∃ c l u, Pt V S G (upD V) 0 (iP c0' L (upD V L c0' 0)) (j + 1) c l s u m := by
        intro m s
        constructor
        · rintro ⟨u, l, ⟨-, d1, d2, d3, d4, d5, d6⟩, m1, nz⟩
          obtain ⟨cc', h1, h2⟩ := tb_nz nz
          exact ⟨cc', l, u, (hb cc' l s u m d1 d2 d4 m1 h1).mp h2⟩
        · rintro ⟨cc', l, u, w⟩
          have b := pn _ _ _ _ _ w
          have cn := cgV_n (h := j) hV (by omega)
          have c64' := cOK_64 b.1 v1.2 v2.2
          refine ⟨u, l, ⟨trivial, b.2.2.1, b.2.2.2.1, b.2.2.2.2.2.1, b.2.1, ?_, b.2.2.2.2.2.2.2⟩, b.2.2.2.2.1, fun e => ?_⟩
          · have b7 := b.2.2.2.2.2.2.1
            have cb : coolV V (j : Int) = 0 ∨ coolV V (j : Int) = 1 := bI_01
            unfold lnL loL
            split <;> omega
          · have := (hb cc' l s u m b.2.2.1 b.2.2.2.1 b.2.1 b.2.2.2.2.1 (by omega)).mpr w
            rw [e, tb_0] at this
            cases this
      refine ⟨(iI ((j + 1 : Nat) : Int), St E C'), ?_, C', rfl, ⟨nF_tr f1 g2, g4.1.trans f1'⟩, ⟨g4.2.1, fun m hm => ⟨mnP_tr (w1.2 m hm).1 (g4.2.2 m hm).1 (fun y => ?_), mnP_tr (w1.2 m hm).2 (g4.2.2 m hm).2 (fun y => ?_)⟩⟩, _, g3, hb⟩
      · unfold fX4_toursOf_l64
        dsimp only
        rw [g6_4 R.2.1.1, some_bind, RC_v cc, if_neg (by rw [iI_le (by omega) (by omega) (by omega) (by omega)]; omega), g1, some_bind, iI_add]
        rfl
      · constructor
        · rintro ⟨h, c', l, s, u, h1, h2, h3⟩
          by_cases e : h = j + 1
          · subst e
            obtain ⟨u', l', a1, a2⟩ := (key m s).mpr ⟨c', l, u, h2⟩
            exact Or.inr ⟨s, u', l', a1, a2, h3⟩
          · exact Or.inl ⟨h, c', l, s, u, by omega, h2, h3⟩
        · rintro (⟨h, c', l, s, u, h1, h2, h3⟩ | ⟨s, u, l, a1, a2, a3⟩)
          · exact ⟨h, c', l, s, u, by omega, h2, h3⟩
          · obtain ⟨c', l', u', w⟩ := (key m s).mp ⟨u, l, a1, a2⟩
            exact ⟨j + 1, c', l', s, u', by omega, w, a3⟩
      · constructor
        · rintro ⟨h, c', l, s, u, h1, h2, h3⟩
          by_cases e : h = j + 1
          · subst e
            obtain ⟨u', l', a1, a2⟩ := (key m s).mpr ⟨c', l, u, h2⟩
            exact Or.inr ⟨s, u', l', a1, a2, by omega⟩
          · exact Or.inl ⟨h, c', l, s, u, by omega, h2, h3⟩
        · rintro (⟨h, c', l, s, u, h1, h2, h3⟩ | ⟨s, u, l, a1, a2, a3⟩)
          · exact ⟨h, c', l, s, u, by omega, h2, h3⟩
          · obtain ⟨c', l', u', w⟩ := (key m s).mp ⟨u, l, a1, a2⟩
            exact ⟨j + 1, c', l', s, u', by omega, w, by omega⟩)
    (fun a ha => by
      obtain ⟨C, rfl, ⟨f1, f1'⟩, w1, -⟩ := ha
      have cc := RC_nF R f1 c
      refine ⟨St E C, ?_, C, rfl, ⟨f1, f1'⟩, w1⟩
      unfold fX4_toursOf_l64
      dsimp only
      rw [g6_4 R.2.1.1, some_bind, RC_v cc, if_pos (by rw [iI_le (by omega) (by omega) (by omega) (by omega)]; omega)]) (N := FU) (by show (V.1 4).toNat < 1000000; omega) (a := (iI 0, St E B)) ⟨B, rfl, ⟨nF_rfl, rfl⟩, ht, _, hA, start_bR (stA0_bR (by decide) hc0 c64) T0 hL⟩
  exact ⟨C, e1, f1, RC_nF R f1.1 c, w1⟩
end TRN
