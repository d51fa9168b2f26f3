/-! the class's Guide: all hours are marked -/
def dnG (s u j : Nat) : Nat → Nat → Nat → Prop := fun s' u' l' => s' < s ∨ (s' = s ∧ (u' < u ∨ (u' = u ∧ l' < j)))
section GDH
variable {E : Ev} {B C : Bk} {V : Vy} {S d p sd G n h s u l c e cT lT : Nat}
theorem s1_mk23 (K : RKD E d) (kp : VK E p) (g : GC B d p V sd G) (hV : VOK V) (hn : V.1 3 = (n : Int)) (hh : (h : Int) < V.1 4) (he : h ≤ e) (hS : sd ≤ S) (s9 : sd ≤ 9) (g9 : G ≤ 9) (m : mgA B d V S G n sd e cT lT (h + 1)) (hs : s ≤ sd) (hu : u ≤ G) (w : mgS B C d V S G n sd e cT lT h (dnG s u 0)) : ∃ C', iter (fX1_markHour_l23 (E.1 + (d + 4)) (iI (h : Int)) (iI (s : Int)) (iI (u : Int))) FU (iI 0, St E C) = some (St E C') ∧ mgS B C' d V S G n sd e cT lT h (dnG s (u + 1) 0) := by
  have k1 := K.2.1.1
  have v3 := hV.2.2.1
  have v4 := hV.2.2.2.1
  obtain ⟨z, e1, C', rfl, e2⟩ := iter_acc (F := fX1_markHour_l23 (E.1 + (d + 4)) (iI (h : Int)) (iI (s : Int)) (iI (u : Int))) (fun j b => ∃ C, b = (iI (j : Int), St E C) ∧ mgS B C d V S G n sd e cT lT h (dnG s u j)) n (fun b => ∃ C, b = St E C ∧ mgS B C d V S G n sd e cT lT h (dnG s u n))
    (fun j b hj hb => by
      obtain ⟨C, rfl, w⟩ := hb
      have gc := GC_mgF w.1 g
      have mc := mgS_nx w m
      obtain ⟨x, x1, x2⟩ := s1_leading K kp gc hV hn hh s9 g9 hs hu hj
      have pb := plG_b (h := h) (s := s) (u := u) (l := j) (sd := sd) (G := G) (n := n) (by omega) hs hu hj s9 g9 (by omega)
      refine ⟨(iI ((j + 1 : Nat) : Int), St E (wJ C (d + 1) ((plG sd G n h s u j : Nat) : Int) x)), ?_, _, rfl, mgF_tr w.1 mgF_wJ, fun z hz => ?_, fun s' u' l' c q q1 q2 q3 hc => ?_⟩
      · unfold fX1_markHour_l23
        dsimp only
        rw [g1_3 k1 gc.1.2.2, some_bind, g6_3 kp.1, some_bind, GC_v gc, hn, if_neg (by rw [iI_le (by omega) (by omega) (by omega) (by omega)]; omega), g1_1 k1 gc.1.1, some_bind, s1_placeOf K kp gc hn, some_bind]
        dsimp only
        rw [x1, some_bind]
        dsimp only
        rw [sL_ok K.1.2.1 (by omega) (by omega) (by omega), some_bind, iI_add]
        rfl
      · rw [wJ_5, if_neg (fun q => hz s u j (Or.inr ⟨rfl, Or.inr ⟨rfl, by omega⟩⟩) hs hu hj q.2)]
        refine w.2.1 z (fun s' u' l' q q1 q2 q3 => hz s' u' l' ?_ q1 q2 q3)
        unfold dnG at q ⊢
        omega
      · rw [wJ_5]
        by_cases eq : s' = s ∧ u' = u ∧ l' = j
        · obtain ⟨rfl, rfl, rfl⟩ := eq
          rw [if_pos ⟨rfl, rfl⟩, x2 c hc, Ld_step he]
          constructor
          · rintro ⟨y1, a, y2⟩
            exact ⟨y1, a, (gb_gd hV hn hS q1 q2 q3 y1 mc).mp y2⟩
          · rintro ⟨y1, a, y2⟩
            exact ⟨y1, a, (gb_gd hV hn hS q1 q2 q3 y1 mc).mpr y2⟩
        · rw [if_neg (fun q' => eq (by
            have := plG_inj q1 q2 q3 hs hu hj (show plG sd G n h s' u' l' = plG sd G n h s u j by omega)
            exact this.2))]
          refine w.2.2 s' u' l' c ?_ q1 q2 q3 hc
          unfold dnG at q ⊢
          omega)
    (fun b hb => by
      obtain ⟨C, rfl, w⟩ := hb
      have gc := GC_mgF w.1 g
      refine ⟨St E C, ?_, C, rfl, w⟩
      unfold fX1_markHour_l23
      dsimp only
      rw [g1_3 k1 gc.1.2.2, some_bind, g6_3 kp.1, some_bind, GC_v gc, hn, if_pos (by rw [iI_le (by omega) (by omega) (by omega) (by omega)]; omega)]) (N := FU) (by show n < 1000000; omega) (a := (iI 0, St E C)) ⟨C, rfl, w⟩
  refine ⟨C', e1, mgS_cg (fun s' u' l' q1 q2 q3 => ?_) e2⟩
  unfold dnG
  omega
theorem s1_mk12 (K : RKD E d) (kp : VK E p) (g : GC B d p V sd G) (hV : VOK V) (hn : V.1 3 = (n : Int)) (hh : (h : Int) < V.1 4) (he : h ≤ e) (hS : sd ≤ S) (s9 : sd ≤ 9) (g9 : G ≤ 9) (m : mgA B d V S G n sd e cT lT (h + 1)) (hs : s ≤ sd) (w : mgS B C d V S G n sd e cT lT h (dnG s 0 0)) : ∃ C', iter (fX1_markHour_l12 (E.1 + (d + 4)) (iI (h : Int)) (iI (s : Int))) FU (iI 0, St E C) = some (St E C') ∧ mgS B C' d V S G n sd e cT lT h (dnG (s + 1) 0 0) := by
  have k1 := K.2.1.1
  obtain ⟨z, e1, C', rfl, e2⟩ := iter_acc (F := fX1_markHour_l12 (E.1 + (d + 4)) (iI (h : Int)) (iI (s : Int))) (fun j b => ∃ C, b = (iI (j : Int), St E C) ∧ mgS B C d V S G n sd e cT lT h (dnG s j 0)) (G + 1) (fun b => ∃ C, b = St E C ∧ mgS B C d V S G n sd e cT lT h (dnG s (G + 1) 0))
    (fun j b hj hb => by
      obtain ⟨C, rfl, w⟩ := hb
      have gc := GC_mgF w.1 g
      obtain ⟨C2, x1, x2⟩ := s1_mk23 (u := j) K kp g hV hn hh he hS s9 g9 m hs (by omega) w
      refine ⟨(iI ((j + 1 : Nat) : Int), St E C2), ?_, C2, rfl, x2⟩
      unfold fX1_markHour_l12
      dsimp only
      rw [g1_5 k1, some_bind, gc.2.1.2, if_neg (by rw [iI_lt (by omega) (by omega) (by omega) (by omega)]; omega), x1, some_bind, iI_add]
      rfl)
    (fun b hb => by
      obtain ⟨C, rfl, w⟩ := hb
      have gc := GC_mgF w.1 g
      refine ⟨St E C, ?_, C, rfl, w⟩
      unfold fX1_markHour_l12
      dsimp only
      rw [g1_5 k1, some_bind, gc.2.1.2, if_pos (by rw [iI_lt (by omega) (by omega) (by omega) (by omega)]; omega)]) (N := FU) (by show G + 1 < 1000000; omega) (a := (iI 0, St E C)) ⟨C, rfl, w⟩
  refine ⟨C', e1, mgS_cg (fun s' u' l' q1 q2 q3 => ?_) e2⟩
  unfold dnG
  omega
theorem s1_markHour (K : RKD E d) (kp : VK E p) (g : GC B d p V sd G) (hV : VOK V) (hn : V.1 3 = (n : Int)) (hh : (h : Int) < V.1 4) (he : h ≤ e) (hS : sd ≤ S) (s9 : sd ≤ 9) (g9 : G ≤ 9) (m : mgA B d V S G n sd e cT lT (h + 1)) : ∃ C, fX1_markHour (E.1 + (d + 4)) (iI (h : Int)) (St E B) = some (St E C) ∧ mgF d B C ∧ mgA C d V S G n sd e cT lT h ∧ ∀ h', h < h' → mgA B d V S G n sd e cT lT h' → mgA C d V S G n sd e cT lT h' := by
  have k1 := K.2.1.1
  obtain ⟨z, e1, C', rfl, e2⟩ := iter_acc (F := fX1_markHour_l2 (E.1 + (d + 4)) (iI (h : Int))) (fun j b => ∃ C, b = (iI (j : Int), St E C) ∧ mgS B C d V S G n sd e cT lT h (dnG j 0 0)) (sd + 1) (fun b => ∃ C, b = St E C ∧ mgS B C d V S G n sd e cT lT h (dnG (sd + 1) 0 0))
    (fun j b hj hb => by
      obtain ⟨C, rfl, w⟩ := hb
      have gc := GC_mgF w.1 g
      obtain ⟨C2, x1, x2⟩ := s1_mk12 (s := j) K kp g hV hn hh he hS s9 g9 m (by omega) w
      refine ⟨(iI ((j + 1 : Nat) : Int), St E C2), ?_, C2, rfl, x2⟩
      unfold fX1_markHour_l2
      dsimp only
      rw [g1_4 k1, some_bind, gc.2.1.1, if_neg (by rw [iI_lt (by omega) (by omega) (by omega) (by omega)]; omega), x1, some_bind, iI_add]
      rfl)
    (fun b hb => by
      obtain ⟨C, rfl, w⟩ := hb
      have gc := GC_mgF w.1 g
      refine ⟨St E C, ?_, C, rfl, w⟩
      unfold fX1_markHour_l2
      dsimp only
      rw [g1_4 k1, some_bind, gc.2.1.1, if_pos (by rw [iI_lt (by omega) (by omega) (by omega) (by omega)]; omega)]) (N := FU) (by show sd + 1 < 1000000; omega) (a := (iI 0, St E B)) ⟨B, rfl, mgF_rfl, fun z _ => rfl, fun s u l c q _ _ _ _ => by
      unfold dnG at q
      omega⟩
  refine ⟨C', ?_, e2.1, fun s u l c hs hu hl hc => e2.2.2 s u l c (Or.inl (by omega)) hs hu hl hc, fun h' hh' mh s u l c hs hu hl hc => ?_⟩
  · unfold fX1_markHour
    rw [c1 k1, some_bind, e1, some_bind]
  · rw [e2.2.1 _ (fun s' u' l' _ q1 q2 q3 e => by
      have := plG_inj hs hu hl q1 q2 q3 (show plG sd G n h' s u l = plG sd G n h s' u' l' by omega)
      omega)]
    exact mh s u l c hs hu hl hc
/-- hours e, e - 1, .., 1 are marked -/
theorem s1_marks {x2 : Int32} (K : RKD E d) (kp : VK E p) (g : GC B d p V sd G) (hV : VOK V) (hn : V.1 3 = (n : Int)) (he : (e : Int) < V.1 4) (hS : sd ≤ S) (s9 : sd ≤ 9) (g9 : G ≤ 9) (m : mgA B d V S G n sd e cT lT (e + 1)) : ∃ C, iter (fX1_find_l165 (E.1 + (d + 4)) x2) FU (iI (e : Int), St E B) = some (St E C) ∧ mgF d B C ∧ ∀ h, 0 < h → h ≤ e + 1 → mgA C d V S G n sd e cT lT h := by
  have v4 := hV.2.2.2.1
  obtain ⟨z, e1, C', rfl, e2, e3⟩ := iter_acc (F := fX1_find_l165 (E.1 + (d + 4)) x2) (fun j b => ∃ C, b = (iI ((e : Int) - (j : Int)), St E C) ∧ mgF d B C ∧ ∀ h, e - j < h → h ≤ e + 1 → mgA C d V S G n sd e cT lT h) e (fun b => ∃ C, b = St E C ∧ mgF d B C ∧ ∀ h, 0 < h → h ≤ e + 1 → mgA C d V S G n sd e cT lT h)
    (fun j b hj hb => by
      obtain ⟨C, rfl, w1, w2⟩ := hb
      have gc := GC_mgF w1 g
      obtain ⟨C2, x1, x2', x3, x4⟩ := s1_markHour (h := e - j) K kp gc hV hn (by omega) (by omega) hS s9 g9 (w2 (e - j + 1) (by omega) (by omega))
      rw [show ((e - j : Nat) : Int) = (e : Int) - (j : Int) by omega] at x1
      refine ⟨(iI ((e : Int) - ((j + 1 : Nat) : Int)), St E C2), ?_, C2, rfl, mgF_tr w1 x2', fun h q1 q2 => ?_⟩
      · unfold fX1_find_l165
        dsimp only
        rw [if_neg (by rw [iI_0, iI_le (by omega) (by omega) (by omega) (by omega)]; omega), x1, some_bind, iI_add, show (e : Int) - (j : Int) + -1 = (e : Int) - ((j + 1 : Nat) : Int) by omega]
      · by_cases q : h = e - j
        · rw [q]
          exact x3
        · exact x4 h (by omega) (w2 h (by omega) q2))
    (fun b hb => by
      obtain ⟨C, rfl, w1, w2⟩ := hb
      refine ⟨St E C, ?_, C, rfl, w1, fun h q1 q2 => w2 h (by omega) q2⟩
      unfold fX1_find_l165
      dsimp only
      rw [if_pos (by rw [iI_0, iI_le (by omega) (by omega) (by omega) (by omega)]; omega)]) (N := FU) (by show e < 1000000; omega) (a := (iI (e : Int), St E B)) ⟨B, by rw [show (e : Int) - ((0 : Nat) : Int) = (e : Int) by omega], mgF_rfl, fun h q1 q2 => by
      have : h = e + 1 := by omega
      rw [this]
      exact m⟩
  exact ⟨C', e1, e2, e3⟩
end GDH
