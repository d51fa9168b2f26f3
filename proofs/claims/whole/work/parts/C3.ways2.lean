/-! ways: the reference's answer -/
theorem lem_b {S A B P : Int} (h : S ≤ 3 * A + B) (b : B = 0) (p : A ≤ P) : S ≤ P * 3 := by omega
theorem lem_c {z a b : Int} (h0 : 0 ≤ z) (h1 : z ≤ a) (h2 : a ≤ b) (h3 : b ≤ 282429536481) : -1 ≤ z ∧ z ≤ 2305843009213693951 := by omega
theorem smZ_z (n : Nat) : smZ (fun _ => 0) n = 0 := by
  induction n with
  | zero => rfl
  | succ n ih => show smZ (fun _ => 0) n + 0 = 0; rw [ih]; rfl
section WAZ
variable {E : Ev} {B C X : Bk} {V : Vy} {n d : Nat}
/-- what stands of the rows behind j of H hours -/
def wyI (V : Vy) (H j : Nat) (tot : Int) (N : Int → Int) : Prop := (∀ z, 0 ≤ N z) ∧ smZ N 32000 ≤ ((3 ^ j : Nat) : Int) ∧ (∀ z, 0 ≤ z → z < 32000 → ¬ N z = 0 → ∃ c l f g, tOK V c l f g 0 ∧ z = sC c l f g) ∧ smZ (fun z => N z * Wd V (H - j) (j : Int) z) 32000 = tot
theorem m_wayStep {H j : Nat} {tot : Int} {N T : Int → Int} {s : Hp} (rm : mKd E mo) (P : MP X V) (hj : (j : Int) < V.1 4) (jH : j < H) (w : wyI V H j tot N) (an : anyF E (rw2 X N T) s) : ∃ s' T', fX9_hourRows (E.1 + mo) (iI (j : Int)) (iI 0) s = some s' ∧ anyF E (rw2 X T' T') s' ∧ wyI V H (j + 1) tot T' := by
  have hV := P.2.1
  have v4 := hV.2.2.2.1
  obtain ⟨w1, w2, w3, w4⟩ := w
  have p24 : (3 : Nat) ^ j ≤ 3 ^ 24 := Nat.pow_le_pow_right (by omega) (by omega)
  have p24' : ((3 ^ j : Nat) : Int) ≤ 282429536481 := by
    have : (3 : Nat) ^ 24 = 282429536481 := by decide
    rw [this] at p24
    omega
  have bN : ∀ z, 0 ≤ z → z < 32000 → -1 ≤ N z ∧ N z ≤ 2305843009213693951 := fun z z0 z1 => by
    have e : z = ((z.toNat : Nat) : Int) := by omega
    have := smZ_le w1 (n := 32000) z.toNat (by omega)
    rw [← e] at this
    exact lem_c (w1 z) this.2 w2 p24'
  obtain ⟨r, hr⟩ : ∃ r, H - j = r + 1 := ⟨H - j - 1, by omega⟩
  obtain ⟨s', T', e1, e2, e3⟩ := m_hourRows (kd := 0) (h := (j : Int)) (nv := 0) (Inv := cnI V r (j : Int) N) rm P (Or.inl rfl) (fun e => absurd e (by decide)) ⟨by omega, hj⟩ rfl bN w3 (cn_RInv hV w1 (Int.le_trans w2 p24')) an
  obtain ⟨i0, i1, i2, i3, i4⟩ := e3
  refine ⟨s', T', e1, e2, i1, ?_, i4, ?_⟩
  · have := lem_b i3 (show ((0 : Nat) : Int) * N ((32000 : Nat) : Int) = 0 from Int.zero_mul _) w2
    rw [Nat.pow_succ]
    rw [show ((3 ^ j * 3 : Nat) : Int) = ((3 ^ j : Nat) : Int) * 3 from Int.natCast_mul _ _]
    exact this
  · rw [show H - (j + 1) = r by omega, show ((j + 1 : Nat) : Int) = (j : Int) + 1 from Int.natCast_add _ _, i2, ← w4, hr]
    show _ + N ((32000 : Nat) : Int) * 0 = _
    rw [Int.mul_zero, Int.add_zero]
theorem m_waysRun {S G L k c0 q hh : Nat} (rm : mKd E mo) (P0 : MP (plnM B) V) (N0 : RN V (q : Int) S G L k) (hc0 : scV V (q : Int) = (c0 : Int)) (h1 : (hh : Int) < V.1 4) : ∃ D, ((fX9_startsRows (E.1 + mo) (iI (q : Int)) 1 0 (St E B)).bind fun s6 => (iter (fX9_ways_l35 (E.1 + mo) (iI (hh : Int))) FU ((iI 0), s6)).bind fun r9 => (iter (fX9_ways_l57 (E.1 + mo)) FU (0, (iI 0), r9)).bind fun r14 => some (r14.1, r14.2)) = some (jI (Fw V (hh + 1) 0 (L : Int) (S : Int) (G : Int)), St E D) ∧ sc B D := by
  have hV := N0.1
  have v4 := hV.2.2.2.1
  obtain ⟨s1, T1, a1, a2, a3, a4, a5⟩ := m_startsRows (one := 1) (nv := 0) rm P0 N0 hc0
  have kb := sC_b hV a5
  have st0 : wyI V (hh + 1) 0 (Fw V (hh + 1) 0 (L : Int) (S : Int) (G : Int)) (upI (fun _ => 0) (sC (c0 : Int) (L : Int) (S : Int) (G : Int)) 1) := by
    refine ⟨fun z => ?_, ?_, fun z z0 z1 nz => ?_, ?_⟩
    · unfold upI
      dsimp only
      split <;> omega
    · have := smZ_up (T := fun _ => 0) (W := fun _ => 1) (k := sC (c0 : Int) (L : Int) (S : Int) (G : Int)) (v := 1) (n := 32000)
      rw [smZ_one, smZ_one, smZ_z, if_pos ⟨kb.1, by have := kb.2; omega⟩] at this
      rw [this]
      decide
    · unfold upI at nz
      by_cases e : z = sC (c0 : Int) (L : Int) (S : Int) (G : Int)
      · exact ⟨_, _, _, _, a5, e⟩
      · rw [if_neg e] at nz
        exact absurd rfl nz
    · have := smZ_up (T := fun _ => 0) (W := fun z => Wd V (hh + 1 - 0) ((0 : Nat) : Int) z) (k := sC (c0 : Int) (L : Int) (S : Int) (G : Int)) (v := 1) (n := 32000)
      have zz : smZ (fun z => 0 * Wd V (hh + 1 - 0) ((0 : Nat) : Int) z) 32000 = 0 := by
        rw [smZ_cg (F := fun z => 0 * Wd V (hh + 1 - 0) ((0 : Nat) : Int) z) (G := fun _ => 0) (fun z _ => Int.zero_mul _), smZ_z]
      rw [this, if_pos ⟨kb.1, by have := kb.2; omega⟩, zz, Wd_s hV a5]
      show 0 + (1 - 0) * Fw V (hh + 1 - 0) ((0 : Nat) : Int) (L : Int) (S : Int) (G : Int) = _
      rw [Int.zero_add, show (1 : Int) - 0 = 1 from rfl, Int.one_mul]
      rfl
  obtain ⟨X0, hX0⟩ : ∃ X0, X0 = stX B V 0 (q : Int) 9 := ⟨_, rfl⟩
  rw [← hX0] at a2 a3 a4
  obtain ⟨s2, b1, N2, T2, b2, b3⟩ := iter_acc (F := fX9_ways_l35 (E.1 + mo) (iI (hh : Int))) (fun j a => ∃ s' N T, a = (iI (j : Int), s') ∧ anyF E (rw2 X0 N T) s' ∧ wyI V (hh + 1) j (Fw V (hh + 1) 0 (L : Int) (S : Int) (G : Int)) N) (hh + 1) (fun s' => ∃ N T, anyF E (rw2 X0 N T) s' ∧ wyI V (hh + 1) (hh + 1) (Fw V (hh + 1) 0 (L : Int) (S : Int) (G : Int)) N)
    (fun j a hj ha => by
      obtain ⟨s', N, T, rfl, an, w⟩ := ha
      obtain ⟨s3, T3, e1, e2, e3⟩ := m_wayStep rm a3 (show (j : Int) < V.1 4 by omega) hj w an
      refine ⟨(iI ((j + 1 : Nat) : Int), s3), ?_, s3, T3, T3, rfl, e2, e3⟩
      unfold fX9_ways_l35
      dsimp only
      rw [if_neg (by rw [iI_lt (by omega) (by omega) (by omega) (by omega)]; omega), e1, some_bind, iI_add]
      rfl)
    (fun a ha => by
      obtain ⟨s', N, T, rfl, an, w⟩ := ha
      refine ⟨s', ?_, N, T, an, w⟩
      unfold fX9_ways_l35
      dsimp only
      rw [if_pos (by rw [iI_lt (by omega) (by omega) (by omega) (by omega)]; omega)]) (N := FU) (by show hh + 1 < 1000000; omega) (a := (iI 0, s1)) ⟨s1, _, T1, rfl, a2, st0⟩
  have fin : iter (fX9_ways_l57 (E.1 + mo)) FU (0, iI 0, s2) = some (jI (smZ N2 32000), s2) := by
    obtain ⟨x, y, l, f, g, m, u, v, rfl⟩ := b2
    have := iter_for (F := fX9_ways_l57 (E.1 + mo)) (fun j => (jI (smZ N2 j.toNat), iI j, St E (frW (rw2 X0 N2 T2) x y l f g m u v))) 0 32000 (jI (smZ N2 32000), St E (frW (rw2 X0 N2 T2) x y l f g m u v)) (fun j j0 j1 => by
      obtain ⟨jn, rfl⟩ : ∃ jn : Nat, j = (jn : Int) := ⟨j.toNat, by omega⟩
      unfold fX9_ways_l57 lt_
      dsimp only
      rw [if_neg (by rw [iI_le (by omega) (by omega) (by omega) (by omega)]; omega), g9_49 rm.1, some_bind, aL_ok (mk23 rm) j0 (by omega) (by omega), some_bind, frW_2, rw2_N j0 j1, jI_add, iI_add, show ((jn : Int) + 1).toNat = jn + 1 by omega, Int.toNat_natCast]
      rfl) (by
      unfold fX9_ways_l57
      dsimp only
      rw [if_pos (by decide)]
      rfl) (by omega) (N := FU) (FU_big (by omega))
    exact this
  obtain ⟨w1, w2, w3, w4⟩ := b3
  have tot : smZ N2 32000 = Fw V (hh + 1) 0 (L : Int) (S : Int) (G : Int) := by
    rw [← w4, Nat.sub_self]
    exact (smZ_one 32000).symm
  obtain ⟨x, y, l, f, g, m, u, v, rfl⟩ := b2
  refine ⟨frW (rw2 X0 N2 T2) x y l f g m u v, ?_, sc_tr a4 (sc_tr rw2_sc frW_sc)⟩
  rw [show (1 : Int64) = jI 1 from rfl, show (0 : Int64) = jI 0 from rfl, a1, some_bind, b1, some_bind, show jI 0 = (0 : Int64) from rfl, fin, some_bind, tot]
end WAZ
