/-! the class's Guide: an hour is marked -/
def mgF (d : Nat) (B C : Bk) : Prop := C.1 = B.1 ∧ C.2.1 = B.2.1 ∧ C.2.2.1 = B.2.2.1 ∧ C.2.2.2.1 = B.2.2.2.1 ∧ ∀ e, e ≠ d + 1 → C.2.2.2.2 e = B.2.2.2.2 e
/-- the marks of an hour: from where the cell is reached -/
def mgA (B : Bk) (d : Nat) (V : Vy) (S G n sd e cT lT h : Nat) : Prop := ∀ s u l c, s ≤ sd → u ≤ G → l < n → c < 64 → (tb (B.2.2.2.2 (d + 1) ((plG sd G n h s u l : Nat) : Int)) c = true ↔ cOK (V.1 1) (V.1 2) (c : Int) ∧ Ld V S G e cT lT sd h c l s u)
def mgS (B C : Bk) (d : Nat) (V : Vy) (S G n sd e cT lT h : Nat) (D : Nat → Nat → Nat → Prop) : Prop := mgF d B C ∧ (∀ z : Int, (∀ s u l, D s u l → s ≤ sd → u ≤ G → l < n → ¬ z = ((plG sd G n h s u l : Nat) : Int)) → C.2.2.2.2 (d + 1) z = B.2.2.2.2 (d + 1) z) ∧ ∀ s u l c, D s u l → s ≤ sd → u ≤ G → l < n → c < 64 → (tb (C.2.2.2.2 (d + 1) ((plG sd G n h s u l : Nat) : Int)) c = true ↔ cOK (V.1 1) (V.1 2) (c : Int) ∧ Ld V S G e cT lT sd h c l s u)
section GDM
variable {E : Ev} {B C : Bk} {V : Vy} {S d p sd G n h s u l c e cT lT : Nat} {a : Int}
theorem mgF_rfl : mgF d B B := ⟨rfl, rfl, rfl, rfl, fun _ _ => rfl⟩
theorem mgF_tr {A : Bk} (f : mgF d A B) (g : mgF d B C) : mgF d A C := ⟨g.1.trans f.1, g.2.1.trans f.2.1, g.2.2.1.trans f.2.2.1, g.2.2.2.1.trans f.2.2.2.1, fun e q => (g.2.2.2.2 e q).trans (f.2.2.2.2 e q)⟩
theorem mgF_wJ {z : Int} {x : Int64} : mgF d B (wJ B (d + 1) z x) := ⟨rfl, rfl, rfl, rfl, fun e q => by
  funext y
  rw [wJ_5, if_neg (fun w => q w.1)]⟩
theorem GC_mgF (f : mgF d B C) (g : GC B d p V sd G) : GC C d p V sd G := by
  obtain ⟨f1, f2, f3, f4, f5⟩ := f
  have ev : vyN C p = vyN B p := vyN_eq (fun j => by rw [f1]) (fun k z _ _ => by rw [f4])
  unfold GC VW brI at *
  rw [ev, f1, f2, f3, f5 (d + 2 + 1) (by omega)]
  exact g
theorem s1_leading (K : RKD E d) (kp : VK E p) (g : GC B d p V sd G) (hV : VOK V) (hn : V.1 3 = (n : Int)) (hh : (h : Int) < V.1 4) (s9 : sd ≤ 9) (g9 : G ≤ 9) (hs : s ≤ sd) (hu : u ≤ G) (hl : l < n) : ∃ x, fX1_leading (E.1 + (d + 4)) (iI (h : Int)) (iI (s : Int)) (iI (u : Int)) (iI (l : Int)) (St E B) = some (x, St E B) ∧ ∀ c, c < 64 → (tb x c = true ↔ cOK (V.1 1) (V.1 2) (c : Int) ∧ ∃ a, gbM B d V sd G n h a s u l c) := by
  have k1 := K.2.1.1
  have v1 := hV.1
  have v2 := hV.2.1
  have v3 := hV.2.2.1
  have v4 := hV.2.2.2.1
  obtain ⟨z, e1, x, rfl, e2⟩ := iter_acc (F := fX1_leading_l6 (E.1 + (d + 4)) (iI (h : Int)) (iI (s : Int)) (iI (u : Int)) (iI (l : Int))) (fun j b => ∃ x, b = (x, iI (j : Int), St E B) ∧ ∀ c, c < 64 → (tb x c = true ↔ cOK (V.1 1) (V.1 2) (c : Int) ∧ ∃ a, a < (j : Int) ∧ 0 ≤ a ∧ gbM B d V sd G n h a s u l c)) 3 (fun b => ∃ x, b = (x, St E B) ∧ ∀ c, c < 64 → (tb x c = true ↔ cOK (V.1 1) (V.1 2) (c : Int) ∧ ∃ a, a < 3 ∧ 0 ≤ a ∧ gbM B d V sd G n h a s u l c))
    (fun j b hj hb => by
      obtain ⟨x, rfl, hx⟩ := hb
      obtain ⟨q, q1, q2⟩ := s1_canAct (a := (j : Int)) (s := s) (u := u) (l := l) K kp g hn (by omega) (by omega) (by omega) hl s9 g9 (by omega)
      have ng : ¬ iI 3 ≤ iI (j : Int) := by rw [iI_le (by omega) (by omega) (by omega) (by omega)]; omega
      rcases q2 with ⟨rfl, no⟩ | ⟨rfl, ok⟩
      · refine ⟨(x, iI ((j + 1 : Nat) : Int), St E B), ?_, x, rfl, fun c hc => ?_⟩
        · unfold fX1_leading_l6 fX1_leading_b71
          dsimp only
          rw [if_neg ng, q1, some_bind, if_pos (show iI 0 = 0 by decide), iI_add]
          rfl
        · rw [hx c hc]
          constructor
          · rintro ⟨w1, a, w2, w3, w4⟩
            exact ⟨w1, a, by omega, w3, w4⟩
          · rintro ⟨w1, a, w2, w3, w4⟩
            by_cases e : a = (j : Int)
            · rw [e] at w4
              exact absurd w4.1 no
            · exact ⟨w1, a, by omega, w3, w4⟩
      · obtain ⟨l1, l2, s2, u2, y1, y2, y3, y4, y5, y6, y7, y8⟩ := okG_n (h := h) hV hn hs hu hl ok
        have y3' : (l2 : Int) = clA V (h : Int) (l1 : Int) := by rw [← y1]; exact y3
        have wb := hV.2.2.2.2.2.2.2.2.2.1 (l1 : Int) (h : Int) (by omega) (by omega) (by omega) hh
        have gl := s1_goalOf (s := s) (u := u) K kp g hV hn (show 0 ≤ (j : Int) ∧ (j : Int) ≤ 2 by omega) (by omega) s9 g9 y2 y3' y4 y5 y6 y7 y8
        refine ⟨(x ||| scS (B.2.2.2.2 (d + 1) ((plG sd G n (h + 1) s2 u2 l2 : Nat) : Int)) (B.2.2.2.2 (d + 3) (V.2.1 (l1 : Int) (h : Int))) (B.2.1 (d + 2) 1) (V.2.1 (l1 : Int) (h : Int)), iI ((j + 1 : Nat) : Int), St E B), ?_, _, rfl, fun c hc => ?_⟩
        · unfold fX1_leading_l6 fX1_leading_b71 lt_
          dsimp only
          rw [if_neg ng, q1, some_bind, if_neg (show ¬ iI 1 = 0 by decide)]
          dsimp only
          rw [s1_levelBy (by omega), some_bind]
          dsimp only
          rw [y1, gl, some_bind]
          dsimp only
          rw [g1_2 k1 g.1.2.1, some_bind, g1_3 k1 g.1.2.2, some_bind, s_windAt kp (by omega) (by omega) (by omega) (by omega), some_bind, GC_w g]
          dsimp only
          rw [s0_sourcesOf K.1.2.2.1 K.1.2.2.2 wb.1 wb.2, some_bind, iI_add]
          rfl
        · have sb := scS_b (x := B.2.2.2.2 (d + 1) ((plG sd G n (h + 1) s2 u2 l2 : Nat) : Int)) (e := B.2.2.2.2 (d + 3) (V.2.1 (l1 : Int) (h : Int))) (io := B.2.1 (d + 2) 1) v1.2 v2.2 wb.1 wb.2 hc (fun i hi => by
            rw [g.2.2.2.2.2 _ wb.1 wb.2 i hi]
            exact ⟨fun w => w.2, fun w => ⟨hi, w⟩⟩) (fun i hi => by
            rw [g.2.2.2.2.1 i hi]
            exact ⟨fun w => w.2, fun w => ⟨hi, w⟩⟩)
          rw [tb_or, Bool.or_eq_true, hx c hc, sb]
          constructor
          · rintro (⟨w1, a, w2, w3, w4⟩ | ⟨w1, c2, w2, w3, w4⟩)
            · exact ⟨w1, a, by omega, w3, w4⟩
            · refine ⟨w1, (j : Int), by omega, by omega, ok, c2, l2, s2, u2, ?_, y3, y5, y7, w4⟩
              unfold ccA
              rw [y1, w3]
          · rintro ⟨w1, a, w2, w3, w4⟩
            by_cases ea : a = (j : Int)
            · right
              subst ea
              obtain ⟨-, c2, l2', s2', u2', x1, x2, x3, x4, x5⟩ := w4
              have el : l2' = l2 := by omega
              have es : s2' = s2 := by omega
              have eu : u2' = u2 := by omega
              subst el es eu
              refine ⟨w1, c2, ?_, ?_, x5⟩
              · have := crX_in (w := V.2.1 (lvA (j : Int) (l : Int)) (h : Int)) w1 v1.2
                have c64 := cOK_64 this v1.2 v2.2
                unfold ccA at x1
                omega
              · unfold ccA at x1
                rw [y1] at x1
                exact x1.symm
            · exact Or.inl ⟨w1, a, by omega, w3, w4⟩)
    (fun b hb => by
      obtain ⟨x, rfl, hx⟩ := hb
      refine ⟨(x, St E B), ?_, x, rfl, hx⟩
      unfold fX1_leading_l6
      dsimp only
      rw [if_pos (by decide)]) (N := FU) (by decide) (a := (0, iI 0, St E B)) ⟨0, rfl, fun c hc => by
      rw [tb_0]
      constructor
      · intro w
        cases w
      · rintro ⟨-, a, w1, w2, -⟩
        omega⟩
  refine ⟨x, ?_, fun c hc => ?_⟩
  · unfold fX1_leading
    rw [c1 k1, some_bind, e1, some_bind]
  · rw [e2 c hc]
    constructor
    · rintro ⟨w1, a, -, -, w⟩
      exact ⟨w1, a, w⟩
    · rintro ⟨w1, a, w⟩
      have ok := w.1
      unfold okG at ok
      exact ⟨w1, a, by omega, by omega, w⟩
/-- marked next hour: what leads by one act -/
theorem gb_gd (hV : VOK V) (hn : V.1 3 = (n : Int)) (hS : sd ≤ S) (hs : s ≤ sd) (hu : u ≤ G) (hl : l < n) (ci : cOK (V.1 1) (V.1 2) (c : Int)) (m : mgA B d V S G n sd e cT lT (h + 1)) : gbM B d V sd G n h a s u l c ↔ gdA V S G e cT lT sd h a c l s u := by
  have v1 := hV.1
  have v2 := hV.2.1
  have v3 := hV.2.2.1
  constructor
  · rintro ⟨ok, c2, l2, s2, u2, x1, x2, x3, x4, x5⟩
    obtain ⟨l1, l2', s2', u2', y1, y2, y3, y4, y5, y6, y7, y8⟩ := okG_n (h := h) hV hn hs hu hl ok
    have c2i : cOK (V.1 1) (V.1 2) (c2 : Int) := by rw [x1]; exact crX_in ci v1.2
    have c64 := cOK_64 c2i v1.2 v2.2
    have := ((m s2 u2 l2 c2 (by omega) (by omega) (by omega) (by omega)).mp x5).2
    refine ⟨c2, l2, s2, u2, ⟨?_, x1, x2, x3, x4⟩, this⟩
    unfold okG at ok
    unfold okA
    omega
  · rintro ⟨c2, l2, s2, u2, ⟨ok, x1, x2, x3, x4⟩, w⟩
    have sm := Ld_sm w
    have okg : okG n sd G a s u l := by
      unfold okA at ok
      unfold okG
      split at x3 <;> omega
    obtain ⟨l1, l2', s2', u2', y1, y2, y3, y4, y5, y6, y7, y8⟩ := okG_n (h := h) hV hn hs hu hl okg
    have c2i : cOK (V.1 1) (V.1 2) (c2 : Int) := by rw [x1]; exact crX_in ci v1.2
    have c64 := cOK_64 c2i v1.2 v2.2
    exact ⟨okg, c2, l2, s2, u2, x1, x2, x3, x4, (m s2 u2 l2 c2 sm (by omega) (by omega) (by omega)).mpr ⟨c2i, w⟩⟩
theorem mgS_cg {D D' : Nat → Nat → Nat → Prop} (hD : ∀ s u l, s ≤ sd → u ≤ G → l < n → (D s u l ↔ D' s u l)) (w : mgS B C d V S G n sd e cT lT h D) : mgS B C d V S G n sd e cT lT h D' := by
  obtain ⟨w1, w2, w3⟩ := w
  exact ⟨w1, fun z hz => w2 z (fun s u l q q1 q2 q3 => hz s u l ((hD s u l q1 q2 q3).mp q) q1 q2 q3), fun s u l c q q1 q2 q3 hc => w3 s u l c ((hD s u l q1 q2 q3).mpr q) q1 q2 q3 hc⟩
theorem mgS_nx {D : Nat → Nat → Nat → Prop} (w : mgS B C d V S G n sd e cT lT h D) (m : mgA B d V S G n sd e cT lT (h + 1)) : mgA C d V S G n sd e cT lT (h + 1) := by
  intro s u l c hs hu hl hc
  rw [w.2.1 _ (fun s' u' l' _ q1 q2 q3 e => by
    have := plG_inj hs hu hl q1 q2 q3 (show plG sd G n (h + 1) s u l = plG sd G n h s' u' l' by omega)
    omega)]
  exact m s u l c hs hu hl hc
end GDM
