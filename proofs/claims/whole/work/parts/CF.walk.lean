/-! the class's Guide: the first act, and the walk -/
def wkF (d : Nat) (B C : Bk) : Prop := C.1 = B.1 ∧ C.2.1 = B.2.1 ∧ C.2.2.1 = B.2.2.1 ∧ (∀ e, e ≠ d + 5 → C.2.2.2.1 e = B.2.2.2.1 e) ∧ C.2.2.2.2 = B.2.2.2.2
section GDW
variable {E : Ev} {B C : Bk} {V : Vy} {S d p sd G n h s u l c e cT lT L c0 : Nat} {a : Int}
theorem wkF_rfl : wkF d B B := ⟨rfl, rfl, rfl, fun _ _ => rfl, rfl⟩
theorem wkF_tr {A : Bk} (f : wkF d A B) (g : wkF d B C) : wkF d A C := ⟨g.1.trans f.1, g.2.1.trans f.2.1, g.2.2.1.trans f.2.2.1, fun e q => (g.2.2.2.1 e q).trans (f.2.2.2.1 e q), g.2.2.2.2.trans f.2.2.2.2⟩
theorem wkF_wA {z x : Int} : wkF d B (wA B (d + 5) z x) := ⟨rfl, rfl, rfl, fun e q => by
  funext y
  rw [wA_4, if_neg (fun w => q w.1)], rfl⟩
theorem GC_wkF (hp : p + 6 ≤ d) (f : wkF d B C) (g : GC B d p V sd G) : GC C d p V sd G := by
  obtain ⟨f1, f2, f3, f4, f5⟩ := f
  have ev : vyN C p = vyN B p := vyN_eq (fun j => by rw [f1]) (fun k z _ _ => by rw [f4 k (by omega)])
  unfold GC VW brI at *
  rw [ev, f1, f2, f3, f5]
  exact g
theorem mgA_wkF (f : wkF d B C) (m : mgA B d V S G n sd e cT lT h) : mgA C d V S G n sd e cT lT h := by
  unfold mgA at *
  rw [f.2.2.2.2]
  exact m
theorem s1_firstAct (K : RKD E d) (kp : VK E p) (g : GC B d p V sd G) (hV : VOK V) (hn : V.1 3 = (n : Int)) (hh : (h : Int) < V.1 4) (s9 : sd ≤ 9) (g9 : G ≤ 9) (hs : s ≤ sd) (hu : u ≤ G) (hl : l < n) (ci : cOK (V.1 1) (V.1 2) (c : Int)) : ∃ a : Int, fX1_firstAct (E.1 + (d + 4)) (iI (h : Int)) (iI (s : Int)) (iI (u : Int)) (iI (l : Int)) (iI (c : Int)) (St E B) = some (iI a, St E B) ∧ (((0 ≤ a ∧ a < 3) ∧ gbM B d V sd G n h a s u l c ∧ ∀ k, 0 ≤ k → k < a → ¬ gbM B d V sd G n h k s u l c) ∨ (∀ k, 0 ≤ k → k < 3 → ¬ gbM B d V sd G n h k s u l c)) := by
  have k1 := K.2.1.1
  have v1 := hV.1
  have v2 := hV.2.1
  have v3 := hV.2.2.1
  have v4 := hV.2.2.2.1
  have c64 := cOK_64 ci v1.2 v2.2
  have step : ∀ j : Int, 0 ≤ j → j < 3 → (gbM B d V sd G n h j s u l c → fX1_firstAct_l3 (E.1 + (d + 4)) (iI (h : Int)) (iI (s : Int)) (iI (u : Int)) (iI (l : Int)) (iI (c : Int)) (iI j, St E B) = some (.inr (.inr (iI j, St E B)))) ∧ (¬ gbM B d V sd G n h j s u l c → fX1_firstAct_l3 (E.1 + (d + 4)) (iI (h : Int)) (iI (s : Int)) (iI (u : Int)) (iI (l : Int)) (iI (c : Int)) (iI j, St E B) = some (.inl (iI (j + 1), St E B))) := fun j j0 j1 => by
    obtain ⟨q, q1, q2⟩ := s1_canAct (a := j) (s := s) (u := u) (l := l) K kp g hn (by omega) (by omega) (by omega) hl s9 g9 (by omega)
    have ng : ¬ iI 3 ≤ iI j := by rw [iI_le (by omega) (by omega) (by omega) (by omega)]; omega
    unfold fX1_firstAct_l3 fX1_firstAct_b77
    dsimp only
    rw [if_neg ng, q1, some_bind]
    dsimp only
    rcases q2 with ⟨rfl, no⟩ | ⟨rfl, ok⟩
    · rw [if_pos (show iI 0 = 0 by decide), iI_add]
      exact ⟨fun w => absurd w.1 no, fun _ => rfl⟩
    · obtain ⟨l1, l2, s2, u2, y1, y2, y3, y4, y5, y6, y7, y8⟩ := okG_n (h := h) hV hn hs hu hl ok
      have y3' : (l2 : Int) = clA V (h : Int) (l1 : Int) := by rw [← y1]; exact y3
      have wb := hV.2.2.2.2.2.2.2.2.2.1 (l1 : Int) (h : Int) (by omega) (by omega) (by omega) hh
      have gl := s1_goalOf (s := s) (u := u) K kp g hV hn (show 0 ≤ j ∧ j ≤ 2 by omega) (by omega) s9 g9 y2 y3' y4 y5 y6 y7 y8
      have cin := crX_in (w := V.2.1 (l1 : Int) (h : Int)) ci v1.2
      have cin64 := cOK_64 cin v1.2 v2.2
      obtain ⟨c2, hc2⟩ : ∃ c2 : Nat, crX (V.1 1) (V.1 2) (c : Int) (V.2.1 (l1 : Int) (h : Int)) = (c2 : Int) := ⟨_, (Int.toNat_of_nonneg cin.1).symm⟩
      have bit : (gbM B d V sd G n h j s u l c ↔ tb (B.2.2.2.2 (d + 1) ((plG sd G n (h + 1) s2 u2 l2 : Nat) : Int)) c2 = true) := by
        constructor
        · rintro ⟨-, c2', l2', s2', u2', x1, x2, x3, x4, x5⟩
          have el : l2' = l2 := by omega
          have es : s2' = s2 := by omega
          have eu : u2' = u2 := by omega
          have ec : c2' = c2 := by
            unfold ccA at x1
            rw [y1] at x1
            omega
          rw [el, es, eu, ec] at x5
          exact x5
        · intro w
          refine ⟨ok, c2, l2, s2, u2, ?_, y3, y5, y7, w⟩
          unfold ccA
          rw [y1, hc2]
      rw [if_neg (show ¬ iI 1 = 0 by decide), s1_levelBy (by omega), some_bind]
      dsimp only
      rw [y1, g1_3 k1 g.1.2.2, some_bind, some_bind, s_windAt kp (by omega) (by omega) (by omega) (by omega), some_bind, GC_w g]
      dsimp only
      rw [s_carried kp g.2.2.1 (by omega) (by omega) wb.1 wb.2, some_bind, GC_v g, GC_v g]
      dsimp only
      rw [gl, some_bind]
      dsimp only
      rw [hc2, s8_bitO, some_bind, bit]
      dsimp only
      have ab := and_bit (x := B.2.2.2.2 (d + 1) ((plG sd G n (h + 1) s2 u2 l2 : Nat) : Int)) (c := c2) (by omega)
      constructor
      · intro w
        rw [if_neg (fun z => ?_)]
        have := ab.mp ((lg_cmp_eq _ _).mp z)
        rw [w] at this
        cases this
      · intro w
        rw [if_pos ((lg_cmp_eq _ _).mpr (ab.mpr (by rw [Bool.not_eq_true] at w; exact w))), iI_add]
  obtain ⟨r, e1, e2⟩ := iter_seek (F := fX1_firstAct_l3 (E.1 + (d + 4)) (iI (h : Int)) (iI (s : Int)) (iI (u : Int)) (iI (l : Int)) (iI (c : Int))) (fun j b => b = (iI j, St E B)) (fun j => gbM B d V sd G n h j s u l c) (fun j r => r = .inr (iI j, St E B)) (fun r => r = .inl (St E B)) 0 3
    (fun j b j0 j1 hb np => by
      subst hb
      exact ⟨_, (step j j0 j1).2 np, rfl⟩)
    (fun j b j0 j1 hb np => by
      subst hb
      exact ⟨_, (step j j0 j1).1 np, rfl⟩)
    (fun b hb => by
      subst hb
      refine ⟨_, ?_, rfl⟩
      unfold fX1_firstAct_l3
      dsimp only
      rw [if_pos (by decide)]) (by omega) (N := FU) (FU_big (by omega)) (a := (iI 0, St E B)) rfl
  rcases e2 with ⟨j, j0, j1, pj, nj, rfl⟩ | ⟨nj, rfl⟩
  · refine ⟨j, ?_, Or.inl ⟨⟨j0, j1⟩, pj, nj⟩⟩
    unfold fX1_firstAct
    rw [c1 k1, some_bind, e1, some_bind]
    rfl
  · refine ⟨0, ?_, Or.inr nj⟩
    unfold fX1_firstAct
    rw [c1 k1, some_bind, e1, some_bind]
    rfl
theorem s1_walkStep {j c1 l1 s1 u1 : Nat} (K : RKD E d) (kp : VK E p) (hp : p + 6 ≤ d) (g : GC B d p V sd G) (h6 : B.1 (d + 4) 6 = (e : Int)) (hV : VOK V) (hn : V.1 3 = (n : Int)) (he : (e : Int) < V.1 4) (hje : j ≤ e) (hS : sd ≤ S) (s9 : sd ≤ 9) (g9 : G ≤ 9) (m : mgA B d V S G n sd e cT lT (j + 1)) (hs : s1 ≤ sd) (hu : u1 ≤ G) (hl : l1 < n) (ci : cOK (V.1 1) (V.1 2) (c1 : Int)) (ld : Ld V S G e cT lT sd j c1 l1 s1 u1) : ∃ (a : Int) (c2 l2 s2 u2 : Nat), fX1_walk_l28 (E.1 + (d + 4)) (iI (c1 : Int), iI (l1 : Int), iI (s1 : Int), iI (u1 : Int), iI (j : Int), St E B) = some (.inl (iI (c2 : Int), iI (l2 : Int), iI (s2 : Int), iI (u2 : Int), iI ((j + 1 : Nat) : Int), St E (wA B (d + 5) (j : Int) a))) ∧ WR V S G e cT lT sd j a c1 l1 s1 u1 ∧ nxS V S G j a c1 l1 s1 u1 c2 l2 s2 u2 ∧ Ld V S G e cT lT sd (j + 1) c2 l2 s2 u2 ∧ s2 ≤ sd ∧ u2 ≤ G ∧ l2 < n ∧ cOK (V.1 1) (V.1 2) (c2 : Int) := by
  have k1 := K.2.1.1
  have v1 := hV.1
  have v2 := hV.2.1
  have v3 := hV.2.2.1
  have v4 := hV.2.2.2.1
  have c64 := cOK_64 ci v1.2 v2.2
  obtain ⟨a, f1, f2⟩ := s1_firstAct (h := j) (s := s1) (u := u1) (l := l1) (c := c1) K kp g hV hn (by omega) s9 g9 hs hu hl ci
  have gg : ∀ k, gbM B d V sd G n j k s1 u1 l1 c1 ↔ gdA V S G e cT lT sd j k c1 l1 s1 u1 := fun k => gb_gd hV hn hS hs hu hl ci m
  obtain ⟨a', w'⟩ := (Ld_step hje).mp ld
  have ok' := ((gg a').mpr w').1
  rcases f2 with ⟨⟨a0, a3⟩, f3, f4⟩ | f2
  · obtain ⟨c2, l2, s2, u2, nx, ld2⟩ := (gg a).mp f3
    have ok := f3.1
    have nx' := nx
    obtain ⟨n0, n1, n2, n3, n4⟩ := nx'
    obtain ⟨l1', l2', s2', u2', y1, y2, y3, y4, y5, y6, y7, y8⟩ := okG_n (h := j) hV hn hs hu hl ok
    have wb := hV.2.2.2.2.2.2.2.2.2.1 (l1' : Int) (j : Int) (by omega) (by omega) (by omega) (by omega)
    have g2 : GC (wA B (d + 5) (j : Int) a) d p V sd G := GC_wkF hp wkF_wA g
    have hc2 : crX (V.1 1) (V.1 2) (c1 : Int) (V.2.1 (l1' : Int) (j : Int)) = (c2 : Int) := by
      rw [n1]
      unfold ccA
      rw [y1]
    have hl2 : clA V (j : Int) (l1' : Int) = (l2 : Int) := by rw [n2, y1]
    refine ⟨a, c2, l2, s2, u2, ?_, ?_, nx, ld2, by omega, by omega, by omega, by rw [n1]; exact crX_in ci v1.2⟩
    · have fin : fX1_walk_b97 (E.1 + (d + 4)) (iI (c1 : Int)) (iI (s2 : Int)) (iI (j : Int)) (iI (l1' : Int)) (iI (u1 : Int)) (iI (if a = 2 then 1 else 0)) (St E (wA B (d + 5) (j : Int) a)) = some (.inl (iI (c2 : Int), iI (l2 : Int), iI (s2 : Int), iI (u2 : Int), iI ((j + 1 : Nat) : Int), St E (wA B (d + 5) (j : Int) a))) := by
        unfold fX1_walk_b97 lt_
        dsimp only
        rw [g1_3 k1 g2.1.2.2, some_bind, some_bind, s_windAt kp (by omega) (by omega) (by omega) (by omega), some_bind, GC_w g2]
        dsimp only
        rw [s_carried kp g2.2.2.1 (by omega) (by omega) wb.1 wb.2, some_bind, GC_v g2, GC_v g2, hc2]
        dsimp only
        rw [s1_cooled K kp g2 (by omega) (by omega), some_bind, hl2, iI_add, ← n4, iI_add]
        rfl
      have mid : fX1_walk_b81 (E.1 + (d + 4)) (iI (c1 : Int)) (iI (u1 : Int)) (iI (j : Int)) (iI a) (iI (l1' : Int)) (iI (s1 : Int)) (iI (if a = 1 then 1 else 0)) (St E (wA B (d + 5) (j : Int) a)) = some (.inl (iI (c2 : Int), iI (l2 : Int), iI (s2 : Int), iI (u2 : Int), iI ((j + 1 : Nat) : Int), St E (wA B (d + 5) (j : Int) a))) := by
        unfold fX1_walk_b81 lt_
        dsimp only
        rw [iI_add, ← n3]
        by_cases q : a = 2
        · rw [if_pos (by rw [q])]
          rw [if_pos q] at fin
          exact fin
        · rw [if_neg (fun z => q ((iI_eq (by omega) (by omega) (by omega) (by omega)).mp z))]
          rw [if_neg q] at fin
          exact fin
      unfold fX1_walk_l28
      dsimp only
      rw [g1_6 k1, some_bind, h6, if_neg (by rw [iI_lt (by omega) (by omega) (by omega) (by omega)]; omega), f1, some_bind]
      dsimp only
      rw [s1_levelBy (by omega), some_bind, y1]
      dsimp only
      rw [g1_0 k1, some_bind, show d + 4 + 1 = d + 5 from rfl, sI_ok K.2.1.2.1 (by omega) (by omega) (by omega), some_bind]
      by_cases q : a = 1
      · rw [if_pos (by rw [q])]
        rw [if_pos q] at mid
        exact mid
      · rw [if_neg (fun z => q ((iI_eq (by omega) (by omega) (by omega) (by omega)).mp z))]
        rw [if_neg q] at mid
        exact mid
    · unfold WR
      rcases (show a = 0 ∨ a = 1 ∨ a = 2 by omega) with rfl | rfl | rfl
      · exact Or.inl ⟨rfl, (gg 0).mp f3⟩
      · exact Or.inr (Or.inl ⟨rfl, fun w => f4 0 (by omega) (by omega) ((gg 0).mpr w), (gg 1).mp f3⟩)
      · exact Or.inr (Or.inr ⟨rfl, fun w => f4 0 (by omega) (by omega) ((gg 0).mpr w), fun w => f4 1 (by omega) (by omega) ((gg 1).mpr w)⟩)
  · exfalso
    refine f2 a' ?_ ?_ ((gg a').mpr w')
    · unfold okG at ok'
      omega
    · unfold okG at ok'
      omega
theorem s1_walk {q : Nat} (K : RKD E d) (kp : VK E p) (hp : p + 6 ≤ d) (g : GC B d p V sd G) (h6 : B.1 (d + 4) 6 = (e : Int)) (N : RN V (q : Int) S G L n) (hc0 : scV V (q : Int) = (c0 : Int)) (he : (e : Int) < V.1 4) (hS : sd ≤ S) (m : ∀ h, 0 < h → h ≤ e + 1 → mgA B d V S G n sd e cT lT h) (ld : Ld V S G e cT lT sd 0 c0 L 0 0) : ∃ C, fX1_walk (E.1 + (d + 4)) (iI (q : Int)) (St E B) = some (St E C) ∧ wkF d B C ∧ ∀ h : Nat, h ≤ e → ∃ c1 l1 s1 u1, Wk V S G e cT lT sd c0 L h c1 l1 s1 u1 ∧ WR V S G e cT lT sd h (C.2.2.2.1 (d + 5) (h : Int)) c1 l1 s1 u1 := by
  obtain ⟨c0', hc0', c64, cok, hL⟩ := scV_b N
  have ec : c0' = c0 := by omega
  subst ec
  obtain ⟨hV, i0, eS, eG, eL, hn, hS9, hG9⟩ := N
  have k1 := K.2.1.1
  have v4 := hV.2.2.2.1
  have v8 := hV.2.2.2.2.2.2.2.1
  obtain ⟨z, e1, C, rfl, e2, e3⟩ := iter_acc (F := fX1_walk_l28 (E.1 + (d + 4))) (fun j b => ∃ (c1 l1 s1 u1 : Nat) (C : Bk), b = (iI (c1 : Int), iI (l1 : Int), iI (s1 : Int), iI (u1 : Int), iI (j : Int), St E C) ∧ wkF d B C ∧ (Wk V S G e cT lT sd c0' L j c1 l1 s1 u1 ∧ Ld V S G e cT lT sd j c1 l1 s1 u1 ∧ s1 ≤ sd ∧ u1 ≤ G ∧ l1 < n ∧ cOK (V.1 1) (V.1 2) (c1 : Int)) ∧ ∀ h : Nat, h < j → ∃ c1 l1 s1 u1, Wk V S G e cT lT sd c0' L h c1 l1 s1 u1 ∧ WR V S G e cT lT sd h (C.2.2.2.1 (d + 5) (h : Int)) c1 l1 s1 u1) (e + 1) (fun b => ∃ C, b = St E C ∧ wkF d B C ∧ ∀ h : Nat, h < e + 1 → ∃ c1 l1 s1 u1, Wk V S G e cT lT sd c0' L h c1 l1 s1 u1 ∧ WR V S G e cT lT sd h (C.2.2.2.1 (d + 5) (h : Int)) c1 l1 s1 u1)
    (fun j b hj hb => by
      obtain ⟨c1, l1, s1, u1, C, rfl, f, ⟨w1, w2, w3, w4, w5, w6⟩, w7⟩ := hb
      have gc := GC_wkF hp f g
      obtain ⟨a, c2, l2, s2, u2, x1, x2, x3, x4, x5, x6, x7, x8⟩ := s1_walkStep K kp hp gc (by rw [f.1]; exact h6) hV hn he (by omega) hS (by omega) hG9 (mgA_wkF f (m (j + 1) (by omega) (by omega))) w3 w4 w5 w6 w2
      refine ⟨_, x1, c2, l2, s2, u2, _, rfl, wkF_tr f wkF_wA, ⟨⟨c1, l1, s1, u1, a, w1, x2, x3⟩, x4, x5, x6, x7, x8⟩, fun h hh => ?_⟩
      by_cases q : h = j
      · subst q
        refine ⟨c1, l1, s1, u1, w1, ?_⟩
        rw [wA_s]
        exact x2
      · obtain ⟨c1', l1', s1', u1', y1, y2⟩ := w7 h (by omega)
        refine ⟨c1', l1', s1', u1', y1, ?_⟩
        rw [wA_z (by omega)]
        exact y2)
    (fun b hb => by
      obtain ⟨c1, l1, s1, u1, C, rfl, f, -, w7⟩ := hb
      refine ⟨St E C, ?_, C, rfl, f, w7⟩
      unfold fX1_walk_l28
      dsimp only
      rw [g1_6 k1, some_bind, f.1, h6, if_pos (by rw [iI_lt (by omega) (by omega) (by omega) (by omega)]; omega)]) (N := FU) (by show e + 1 < 1000000; omega) (a := (iI (c0' : Int), iI (L : Int), iI 0, iI 0, iI 0, St E B)) ⟨c0', L, 0, 0, B, rfl, wkF_rfl, ⟨⟨rfl, rfl, rfl, rfl⟩, ld, by omega, by omega, hL, cok⟩, fun h hh => by omega⟩
  refine ⟨C, ?_, e2, fun h hh => e3 h (by omega)⟩
  have sc1 : B.2.2.2.1 (p + 2) ((q : Int) * 6 + 1) * 8 + B.2.2.2.1 (p + 2) ((q : Int) * 6) = (c0' : Int) := by
    rw [← hc0, ← g.2.2.2.1]
    unfold scV vyN
    dsimp only
    rw [Int.add_zero]
  have sl1 : B.2.2.2.1 (p + 2) ((q : Int) * 6 + 2) = (L : Int) := by
    rw [← eL, ← g.2.2.2.1]
    rfl
  unfold fX1_walk
  rw [c1 k1, some_bind, g1_3 k1 g.1.2.2, some_bind, s_shopColumn kp i0.1 (by omega), some_bind, sc1]
  dsimp only
  rw [g1_3 k1 g.1.2.2, some_bind, s_shopFact kp i0.1 (by omega) (by omega) (by omega), some_bind, sl1]
  dsimp only
  rw [e1, some_bind]
end GDW
