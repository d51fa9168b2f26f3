/-! way: what leads to a cell, from the front; the columns that a wind carries into a set -/
section LDP
variable {V : Vy} {S G : Nat} {U : Nat → Nat → Nat → Nat} {P Q : StP} {h j : Nat}
theorem Pt_front : ∀ j, Pt V S G U h P (j + 1) = Pt V S G U (h + 1) (Sx V S G U h P) j
  | 0 => by
    show Sx V S G U (0 + h) P = Sx V S G U h P
    rw [Nat.zero_add]
  | j + 1 => by
    show Sx V S G U (j + 1 + h) (Pt V S G U h P (j + 1)) = Sx V S G U (j + (h + 1)) (Pt V S G U (h + 1) (Sx V S G U h P) j)
    rw [Pt_front j, show j + 1 + h = j + (h + 1) by omega]
theorem Pt_lin : ∀ j c l s u m, Pt V S G U0 h P j c l s u m → (∀ c l s u m, P c l s u m → m = 0) → ∃ c1 l1 s1 u1, P c1 l1 s1 u1 0 ∧ Pt V S G U0 h (sP c1 l1 s1 u1) j c l s u m
  | 0, c, l, s, u, m, w, z => by
    have e := z c l s u m w
    subst e
    exact ⟨c, l, s, u, w, rfl, rfl, rfl, rfl, rfl⟩
  | j + 1, c', l', s', u', m', w, z => by
    obtain ⟨c, l, s, u, m, a, p, r⟩ := w
    obtain ⟨c1, l1, s1, u1, x1, x2⟩ := Pt_lin j c l s u m p z
    exact ⟨c1, l1, s1, u1, x1, c, l, s, u, m, a, x2, r⟩
theorem Pt_mono (hPQ : ∀ c l s u m, P c l s u m → Q c l s u m) : ∀ j c l s u m, Pt V S G U h P j c l s u m → Pt V S G U h Q j c l s u m
  | 0, c, l, s, u, m, w => hPQ c l s u m w
  | j + 1, c', l', s', u', m', w => by
    obtain ⟨c, l, s, u, m, a, p, r⟩ := w
    exact ⟨c, l, s, u, m, a, Pt_mono hPQ j c l s u m p, r⟩
theorem Pt_sm {c1 l1 s1 u1 : Nat} : ∀ j c l s u m, Pt V S G U h (sP c1 l1 s1 u1) j c l s u m → s1 ≤ s
  | 0, c, l, s, u, m, w => by
    have := w.2.2.1
    omega
  | j + 1, c', l', s', u', m', w => by
    obtain ⟨c, l, s, u, m, a, p, ok, e1, e2, e3, r⟩ := w
    have := Pt_sm j c l s u m p
    split at e3 <;> omega
variable {e c l sd : Nat}
theorem Ld_sm {c1 l1 s1 u1 : Nat} (w : Ld V S G e c l sd h c1 l1 s1 u1) : s1 ≤ sd := by
  obtain ⟨u, w⟩ := w
  exact Pt_sm _ _ _ _ _ _ w
theorem Ld_end {c1 l1 s1 u1 : Nat} : Ld V S G e c l sd (e + 1) c1 l1 s1 u1 ↔ c = c1 ∧ l = l1 ∧ sd = s1 := by
  unfold Ld
  rw [Nat.sub_self]
  constructor
  · rintro ⟨u, w⟩
    exact ⟨w.1, w.2.1, w.2.2.1⟩
  · rintro ⟨rfl, rfl, rfl⟩
    exact ⟨u1, rfl, rfl, rfl, rfl, rfl⟩
theorem Ld_step {c1 l1 s1 u1 : Nat} (he : h ≤ e) : Ld V S G e c l sd h c1 l1 s1 u1 ↔ ∃ a, gdA V S G e c l sd h a c1 l1 s1 u1 := by
  unfold Ld gdA Ld
  rw [show e + 1 - h = (e + 1 - (h + 1)) + 1 by omega]
  constructor
  · rintro ⟨u, w⟩
    rw [Pt_front] at w
    obtain ⟨c2, l2, s2, u2, x1, x2⟩ := Pt_lin _ _ _ _ _ _ w (fun c l s u m q => by
      obtain ⟨_, _, _, _, m0, a, p, _, _, _, _, _, e5⟩ := q
      have := p.2.2.2.2
      have : m = m0 := e5
      omega)
    obtain ⟨c0, l0, s0, u0, m0, a, ⟨rfl, rfl, rfl, rfl, rfl⟩, ok, e1, e2, e3, e4, -⟩ := x1
    exact ⟨a, c2, l2, s2, u2, ⟨ok, e1, e2, e3, e4⟩, u, x2⟩
  · rintro ⟨a, c2, l2, s2, u2, ⟨ok, e1, e2, e3, e4⟩, u, w⟩
    refine ⟨u, ?_⟩
    rw [Pt_front]
    refine Pt_mono (fun c l s u m q => ?_) _ _ _ _ _ _ w
    obtain ⟨rfl, rfl, rfl, rfl, rfl⟩ := q
    exact ⟨c1, l1, s1, u1, 0, a, ⟨rfl, rfl, rfl, rfl, rfl⟩, ok, e1, e2, e3, e4, rfl⟩
end LDP
section SRC
variable {E : Ev} {B : Bk} {d : Nat} {wd dp : Int}
def rvW (w : Int) : Int := if w = 0 then 0 else (w + 1) % 4 + 1
def scS (x e i : Int64) (w : Int) : Int64 := ((shW x (rvW w)) &&& i &&& (e ^^^ (-1))) ||| (x &&& e)
theorem rvW_b {w : Int} (w0 : 0 ≤ w) (w1 : w < 5) : 0 ≤ rvW w ∧ rvW w < 5 := by
  unfold rvW
  split <;> omega
theorem s0_sourcesOf {x : Int64} {w : Int} (kd : KD E d 0 2) (ke : KD E (d + 1) 21 5) (w0 : 0 ≤ w) (w1 : w < 5) : fX0_sourcesOf (E.1 + d) x (iI w) (St E B) = some (scS x (B.2.2.2.2 (d + 1) w) (B.2.1 d 1) w, St E B) := by
  have rv : fX0_reverseOf (iI w) (St E B) = some (iI (rvW w), St E B) := by
    unfold fX0_reverseOf rvW
    by_cases q : w = 0
    · rw [if_pos (by rw [q]; rfl), if_pos q]
    · rw [if_neg (by rw [iI_0]; exact fun z => q ((iI_eq (by omega) (by omega) (by omega) (by omega)).mp z)), if_neg q, iI_add, mI_ok (by omega) (by omega) (by omega) (by omega), some_bind, iI_add]
  have rb := rvW_b w0 w1
  unfold fX0_sourcesOf
  rw [c0 kd, some_bind, rv, some_bind]
  dsimp only
  rw [s0_shifted rb.1 rb.2, some_bind]
  dsimp only
  rw [g0_1 kd, some_bind, g0_0 kd, some_bind, aL_ok ke w0 (by omega) (by omega), some_bind]
  unfold lt_
  dsimp only
  rw [some_bind, aL_ok ke w0 (by omega) (by omega), some_bind]
  rfl
theorem scS_b {x e io : Int64} {w : Int} {i : Nat} (hwd : wd ≤ 8) (hdp : dp ≤ 8) (w0 : 0 ≤ w) (w1 : w < 5) (hi : i < 64) (eg : ∀ i : Nat, i < 64 → (tb e i = true ↔ cOK wd dp (i : Int) ∧ crX wd dp (i : Int) w = (i : Int))) (ins : ∀ i : Nat, i < 64 → (tb io i = true ↔ cOK wd dp (i : Int))) : tb (scS x e io w) i = true ↔ cOK wd dp (i : Int) ∧ ∃ c : Nat, c < 64 ∧ crX wd dp (i : Int) w = (c : Int) ∧ tb x c = true := by
  have rb := rvW_b w0 w1
  unfold scS
  rw [tb_or, Bool.or_eq_true, tb_and, Bool.and_eq_true, tb_and, Bool.and_eq_true, tb_not hi, tb_and, Bool.and_eq_true, eg i hi, ins i hi, sh_bit rb.1 rb.2 hi]
  constructor
  · rintro (⟨⟨⟨c, a1, a2, a3⟩, b1⟩, b2⟩ | ⟨a1, a2, a3⟩)
    · have ne : ¬ crX wd dp (i : Int) w = (i : Int) := fun q => by
        have := (eg i hi).mpr ⟨b1, q⟩
        rw [this] at b2
        cases b2
      have sh := crX_sh b1 hwd w0 w1
      refine ⟨b1, c, a1, ?_, a2⟩
      unfold rvW at a3
      split at a3 <;> omega
    · exact ⟨a2, i, hi, a3, a1⟩
  · rintro ⟨b1, c, a1, a2, a3⟩
    by_cases q : crX wd dp (i : Int) w = (i : Int)
    · have e : c = i := by omega
      subst e
      exact Or.inr ⟨a3, b1, q⟩
    · refine Or.inl ⟨⟨⟨c, a1, a3, ?_⟩, b1⟩, ?_⟩
      · have sh := crX_sh b1 hwd w0 w1
        unfold rvW
        split <;> omega
      · cases q2 : tb e i
        · rfl
        · exact absurd ((eg i hi).mp q2).2 q
end SRC
