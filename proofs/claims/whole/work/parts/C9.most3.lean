/-! fair and aloft: the class's tags -/
section MTG
variable {E : Ev} {B : Bk} {V : Vy} {S G n L h T c0 d p r : Nat} {kd k i : Int} {ed : Int → Int64} {U : Nat → Nat → Nat → Nat → Nat} {A' : StF}
theorem NT_fairK {B0 : Bk} (R : RE E d p r) (hn : V.1 3 = (n : Int)) (n5 : n ≤ 5) (hS : S ≤ 9) (hG : G ≤ 9) (f10 : 0 ≤ V.1 10 ∧ V.1 10 < 64) (f11 : 0 ≤ V.1 11 ∧ V.1 11 < 24) (hh : h < 24) : NT E d p r S G n T V ed L 2 h (ntU (upT T (mFa h V)) T) A' (SdK B0 r) := by
  intro B A D s u l hs hu hl c hA _ w
  rw [s4_nH R c hn, if_neg (by decide), if_neg (by decide), if_pos rfl]
  by_cases q : (h : Int) < V.1 11
  · rw [if_pos (by rw [iI_lt (by omega) (by omega) (by omega) (by omega)]; exact q), s4_n97 R c (by omega), if_neg (by omega)]
    refine ⟨B, rfl, nF_rfl, upB_id hA (fun t ht => ntU_id (fun c t => ?_) ht), w⟩
    unfold upT mFa
    rw [decide_eq_false (by omega), Bool.false_and, if_neg (by decide)]
  · rw [if_neg (by rw [iI_lt (by omega) (by omega) (by omega) (by omega)]; exact q)]
    obtain ⟨C, e1, e2, e3⟩ := s4_cnt (s := s) (u := u) (l := l) (m := lsh 1 (iI (V.1 10))) (mb := fun c => mFa h V l c) R c n5 hS hG hs hu hl (fun i hi => by
      have := tb_one (k := (V.1 10).toNat) (by omega) hi
      rw [show (((V.1 10).toNat : Nat) : Int) = V.1 10 by omega] at this
      rw [this]
      unfold mFa
      rw [decide_eq_true (show V.1 11 ≤ (h : Int) by omega), Bool.true_and]
      congr 1
      apply propext
      omega) hA
    exact ⟨C, by rw [e1]; rfl, nF_ro e2, e3, SdK_ro (D := fun _ _ _ => False) R e2 w⟩
theorem NT_aloftK {B0 : Bk} (R : RE E d p r) (hn : V.1 3 = (n : Int)) (n5 : n ≤ 5) (hS : S ≤ 9) (hG : G ≤ 9) : NT E d p r S G n T V ed L 3 h (ntU (upT T mAl) T) A' (SdK B0 r) := by
  intro B A D s u l hs hu hl c hA _ w
  rw [s4_nH R c hn, if_neg (by decide), if_neg (by decide), if_neg (by decide), s4_n97 R c (by omega)]
  by_cases q : 0 < l
  · rw [if_pos ⟨rfl, q⟩]
    obtain ⟨C, e1, e2, e3⟩ := s4_cnt (s := s) (u := u) (l := l) (m := -1) (mb := fun c => mAl l c) R c n5 hS hG hs hu hl (fun i hi => by
      rw [tb_m1 i hi]
      unfold mAl
      rw [decide_eq_true q]) hA
    refine ⟨C, by rw [e1]; rfl, nF_ro e2, ?_, SdK_ro (D := fun _ _ _ => False) R e2 w⟩
    have : ntU (upT T fun _ c => mAl l c) T l (A s u l) = ntU (upT T mAl) T l (A s u l) := rfl
    rw [this] at e3
    exact e3
  · rw [if_neg (fun w => q w.2)]
    refine ⟨B, rfl, nF_rfl, upB_id hA (fun t ht => ntU_id (fun c t => ?_) ht), w⟩
    unfold upT mAl
    rw [decide_eq_false q, if_neg (by decide)]
theorem Ph_PBT {P0 : StP} {J : Nat} (hV : VOK V) (hn : V.1 3 = (n : Int)) (hU : ∀ j l c m, j < J → l < n → c < 64 → m < T → U j l c m < T) (h0 : PB V S G n T L 0 P0) (hJ : (J : Int) ≤ V.1 4) : ∀ {j : Nat}, j ≤ J → PB V S G n T L j (Ph V S G U P0 j)
  | 0, _ => h0
  | j + 1, hj => Sx_PB hV hn (by omega) (fun l c m => hU j l c m (by omega)) (Ph_PBT hV hn hU h0 hJ (by omega))
theorem s4_tagRun {J : Nat} {F : Int32 × Hp → Option ((Int32 × Hp) ⊕ Hp)} (R : RE E d p r) (N : RN V i S G L n) (hc0 : scV V i = (c0 : Int)) (c : RC B d p r V ed S G L T k) (k4 : ¬ k = 4) (hA : stR B d S G n T (stA0 V i k L)) (hJ : (J : Int) ≤ V.1 4) (hU : ∀ j l c m, j < J → l < n → c < 64 → m < T → U j l c m < T) (hNT : ∀ h A', h < J → NT E d p r S G n T V ed L k h (ntU (U h) T) A' (SdK B r)) (hF : ∀ (j : Nat) C, j < J → RC C d p r V ed S G L T k → F (iI (j : Int), St E C) = (fX4_passHour (E.1 + d) (iI (j : Int)) (St E C)).bind fun s6 => some (.inl (iI (j : Int) + iI 1, s6))) (hE : ∀ C, RC C d p r V ed S G L T k → F (iI (J : Int), St E C) = some (.inr (St E C))) : ∃ C, iter F FU (iI 0, St E B) = some (St E C) ∧ nF d r B C ∧ SdK B r (fun _ _ _ => False) C ∧ ∃ A, stR C d S G n T A ∧ bR S G n T A (Ph V S G U (iP c0 L 0) J) := by
  obtain ⟨c0', hc0', c64, cok, hL⟩ := scV_b N
  have ec : c0' = c0 := by omega
  subst ec
  obtain ⟨hV, i0, eS, eG, eL, hn, hS, hG⟩ := N
  have v4 := hV.2.2.2.1
  have eg := RC_eg c
  have T0 := c.2.2.2.2.2.2.1
  have pb : ∀ {j : Nat}, j ≤ J → PB V S G n T L j (Ph V S G U (iP c0' L 0) j) := fun hj => Ph_PBT hV hn hU (iP_PB cok hL (by omega)) hJ hj
  obtain ⟨z, e1, C, rfl, f1, f2, w1⟩ := iter_acc (F := F) (fun j a => ∃ C, a = (iI (j : Int), St E C) ∧ nF d r B C ∧ SdK B r (fun _ _ _ => False) C ∧ ∃ A, stR C d S G n T A ∧ bR S G n T A (Ph V S G U (iP c0' L 0) j)) J (fun q => ∃ C, q = St E C ∧ nF d r B C ∧ SdK B r (fun _ _ _ => False) C ∧ ∃ A, stR C d S G n T A ∧ bR S G n T A (Ph V S G U (iP c0' L 0) J))
    (fun j a hj ha => by
      obtain ⟨C, rfl, f1, f2, A, s1, b1⟩ := ha
      have cc := RC_nF R f1 c
      have hb := hr_bits (U := U j) (k := k) hV hn (by omega) k4 eg (pb (j := j) (by omega)) b1
      obtain ⟨C', g1, g2, g3, g4⟩ := s4_passHour (h := j) (A := A) (Sd := SdK B r) R cc hV hn hL hS hG (by omega) (hNT j _ hj) (fun D B C f w => SdK_ro R f w) s1 f2
      refine ⟨(iI ((j + 1 : Nat) : Int), St E C'), ?_, C', rfl, nF_tr f1 g2, g4, _, g3, hb⟩
      rw [hF j C hj cc, g1, some_bind, iI_add]
      rfl)
    (fun a ha => by
      obtain ⟨C, rfl, f1, w⟩ := ha
      exact ⟨St E C, hE C (RC_nF R f1 c), C, rfl, f1, w⟩) (N := FU) (by show J < 1000000; omega) (a := (iI 0, St E B)) ⟨B, rfl, nF_rfl, ⟨rfl, rfl⟩, _, hA, stA0_bR k4 hc0 c64⟩
  exact ⟨C, e1, f1, f2, w1⟩
theorem hg_tg {C : Bk} {A : StF} {P : StP} {rr : Int} {bc : Nat} (hn5 : 1 ≤ n ∧ n ≤ 5) (T0 : 1 ≤ T) (hP : PB V S G n T L h P) (hV : VOK V) (hA : stR C d S G n T A) (hb : bR S G n T A P) (e : bc = (S + 1) * (G + 1) * n * T) (w : hgS C d T bc rr) : tgS P rr := by
  obtain ⟨w1, w2, w3⟩ := w
  have v1 := hV.1
  have v2 := hV.2.1
  refine ⟨w1.1, fun c l s u m p => ?_, ?_⟩
  · obtain ⟨b1, b2, b3, b4, b5, -⟩ := hP c l s u m p
    have c64 := cOK_64 b1 v1.2 v2.2
    have hx : plN G n T s u l m < bc := by
      rw [e]
      unfold plN
      have y1 : s * (G + 1) + u < (S + 1) * (G + 1) := by
        have : (s + 1) * (G + 1) ≤ (S + 1) * (G + 1) := Nat.mul_le_mul_right _ (by omega)
        rw [Nat.add_mul s 1] at this
        omega
      have y2 : (s * (G + 1) + u) * n + l < (S + 1) * (G + 1) * n := by
        have : (s * (G + 1) + u + 1) * n ≤ (S + 1) * (G + 1) * n := Nat.mul_le_mul_right _ y1
        rw [Nat.add_mul _ 1] at this
        omega
      have : ((s * (G + 1) + u) * n + l + 1) * T ≤ (S + 1) * (G + 1) * n * T := Nat.mul_le_mul_right _ y2
      rw [Nat.add_mul _ 1] at this
      omega
    have nz : ¬ C.2.2.2.2 (d + 1) ((plN G n T s u l m : Nat) : Int) = 0 := fun q => by
      rw [hA s u l m b3 b4 b2 b5] at q
      have := (hb c l s u m b3 b4 b2 b5 (by omega)).mpr p
      rw [q, tb_0] at this
      cases this
    have := w2 _ hx nz
    have md : plN G n T s u l m % T = m := by
      unfold plN
      rw [Nat.mul_comm, Nat.mul_add_mod, Nat.mod_eq_of_lt b5]
    rw [← Int.natCast_emod, md] at this
    exact this
  · rcases w3 with q | ⟨x, x1, x2, x3⟩
    · exact Or.inl q
    · right
      have m0 : x % T < T := Nat.mod_lt _ (by omega)
      have m1 : x / T % n < n := Nat.mod_lt _ (by omega)
      have m2 : x / T / n % (G + 1) < G + 1 := Nat.mod_lt _ (by omega)
      have d1 : x / T < (S + 1) * (G + 1) * n := by rw [Nat.div_lt_iff_lt_mul (by omega)]; omega
      have d2 : x / T / n < (S + 1) * (G + 1) := by rw [Nat.div_lt_iff_lt_mul (by omega)]; exact d1
      have d3 : x / T / n / (G + 1) < S + 1 := by rw [Nat.div_lt_iff_lt_mul (by omega)]; exact d2
      have pe : plN G n T (x / T / n / (G + 1)) (x / T / n % (G + 1)) (x / T % n) (x % T) = x := by
        unfold plN
        rw [Nat.div_add_mod' (x / T / n) (G + 1), Nat.div_add_mod' (x / T) n, Nat.div_add_mod' x T]
      have ha := hA _ _ _ _ (show x / T / n / (G + 1) ≤ S by omega) (show x / T / n % (G + 1) ≤ G by omega) m1 m0
      rw [pe] at ha
      rw [ha] at x2
      have ex : ∃ cc : Nat, cc < 64 ∧ tb (A (x / T / n / (G + 1)) (x / T / n % (G + 1)) (x / T % n) (x % T)) cc = true := by
        by_cases ex : ∃ cc : Nat, cc < 64 ∧ tb (A (x / T / n / (G + 1)) (x / T / n % (G + 1)) (x / T % n) (x % T)) cc = true
        · exact ex
        · refine absurd (tb_iff (fun i hi => ?_)) x2
          rw [tb_0]
          constructor
          · exact fun w => absurd ⟨i, hi, w⟩ ex
          · intro w
            cases w
      obtain ⟨cc, c1, c2⟩ := ex
      refine ⟨cc, _, _, _, _, (hb cc _ _ _ _ (show x / T / n / (G + 1) ≤ S by omega) (show x / T / n % (G + 1) ≤ G by omega) m1 m0 c1).mp c2, ?_⟩
      rw [← x3]
      exact Int.natCast_emod _ _
end MTG
