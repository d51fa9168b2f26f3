/-! meet and rope: both answer alike -/
section MEE
variable {E : Ev} {B C X : Bk} {n d : Nat} {V : Vy} {F G : Nat} {P : StP}
/-- the reference's search near a cell, three loops; the row of canBe tells T -/
theorem rfs_cell {x y l : Int} {s : Hp} (rm : mKd E mo) (R : RfS E B V 0 F G P X s) (hx : i32 x) (hy : i32 y) (hl : i32 l) : fX9_isCell (E.1 + mo) (iI x) (iI y) (iI l) s = some (iI (bI (((0 ≤ x ∧ x < V.1 1) ∧ (0 ≤ y ∧ y < V.1 2)) ∧ (0 ≤ l ∧ l < V.1 3))), s) := by
  have P2 := R.2.2.1
  have nm := MP_num P2
  obtain ⟨x', y', l', f', g', m', u', v', rfl⟩ := R.1
  have mw : mWd (frW X x' y' l' f' g' m' u' v') mo := P2.1.2.2.2.2.2.2.2.2
  simp only [fX9_isCell, fX9_isCell_b23, c9 rm.1, jI_i hx.1 hx.2, jI_i hy.1 hy.2, m_isColumn (i3264 hx) (i3264 hy) rm mw, m_isLayer hl rm mw, some_bind, iI_0, ib, frW_2, nm.1, nm.2.1, nm.2.2.1]
  by_cases q1 : (0 ≤ x ∧ x < V.1 1) ∧ (0 ≤ y ∧ y < V.1 2)
  · rw [if_pos q1]
    by_cases q2 : 0 ≤ l ∧ l < V.1 3
    · rw [if_pos q2, bI_t ⟨q1, q2⟩]
    · rw [if_neg q2, bI_f (fun w => q2 w.2)]
  · rw [if_neg q1, bI_f (fun w => q1 w.1)]
def onK (V : Vy) (K : Int → Int) (h : Nat) (x y l : Int) : Prop := (((0 ≤ x ∧ x < V.1 1) ∧ (0 ≤ y ∧ y < V.1 2)) ∧ (0 ≤ l ∧ l < V.1 3)) ∧ K (320 * (h : Int) + ((x * 8 + y) * 5 + l)) = 1
theorem m_near3 {h : Nat} {x y l a x1 y1 : Int} {s : Hp} {z2 z3 : Int32} (rm : mKd E mo) (hV : VOK V) (hh : h < 24) (hk : ∀ z, 0 ≤ z → z < 7680 → X.2.2.2.1 (mo + 25) z = 0 ∨ X.2.2.2.1 (mo + 25) z = 1 ∨ True) (a0 : 0 ≤ a ∧ a ≤ 1) (l0 : 0 ≤ l ∧ l < 5) (xb : -1 ≤ x1 ∧ x1 ≤ 8) (yb : -1 ≤ y1 ∧ y1 ≤ 8) (hkb : ∀ x y l : Int, ((0 ≤ x ∧ x < V.1 1) ∧ (0 ≤ y ∧ y < V.1 2)) ∧ (0 ≤ l ∧ l < V.1 3) → X.2.2.2.1 (mo + 25) (320 * (h : Int) + ((x * 8 + y) * 5 + l)) = 0 ∨ X.2.2.2.1 (mo + 25) (320 * (h : Int) + ((x * 8 + y) * 5 + l)) = 1) (R : RfS E B V 0 F G P X s) : ∃ z, iter (fX9_isNear_l37 (E.1 + mo) (iI (h : Int)) z2 z3 (iI l) (iI a) (iI x1) (iI y1)) FU (iI (l - a), s) = some z ∧ ((z = Sum.inl s ∧ ¬ ∃ l1, (l - a ≤ l1 ∧ l1 ≤ l + a) ∧ onK V (X.2.2.2.1 (mo + 25)) h x1 y1 l1) ∨ (z = Sum.inr s ∧ ∃ l1, (l - a ≤ l1 ∧ l1 ≤ l + a) ∧ onK V (X.2.2.2.1 (mo + 25)) h x1 y1 l1)) := by
  have v1 := hV.1
  have v2 := hV.2.1
  have v3 := hV.2.2.1
  have R' := R
  have body : ∀ j : Int, -1 ≤ j → j ≤ 6 → j ≤ l + a → (¬ onK V (X.2.2.2.1 (mo + 25)) h x1 y1 j → fX9_isNear_l37 (E.1 + mo) (iI (h : Int)) z2 z3 (iI l) (iI a) (iI x1) (iI y1) (iI j, s) = some (.inl (iI (j + 1), s))) ∧ (onK V (X.2.2.2.1 (mo + 25)) h x1 y1 j → fX9_isNear_l37 (E.1 + mo) (iI (h : Int)) z2 z3 (iI l) (iI a) (iI x1) (iI y1) (iI j, s) = some (.inr (.inr s))) := by
    intro j j0 j1 j2
    have nl : ¬ iI (l + a) < iI j := by rw [iI_lt (by omega) (by omega) (by omega) (by omega)]; omega
    have ic := rfs_cell (x := x1) (y := y1) (l := j) rm R ⟨by omega, by omega⟩ ⟨by omega, by omega⟩ ⟨by omega, by omega⟩
    by_cases c : ((0 ≤ x1 ∧ x1 < V.1 1) ∧ (0 ≤ y1 ∧ y1 < V.1 2)) ∧ (0 ≤ j ∧ j < V.1 3)
    · have kv := hkb x1 y1 j c
      obtain ⟨x', y', l', f', g', m', u', v', rfl⟩ := R.1
      have ck : fX9_cellOf (E.1 + mo) (iI x1) (iI y1) (iI j) (St E (frW X x' y' l' f' g' m' u' v')) = some (iI ((x1 * 8 + y1) * 5 + j), St E (frW X x' y' l' f' g' m' u' v')) := by
        unfold fX9_cellOf
        rw [c9 rm.1, some_bind, iI_mul, iI_add, iI_mul, iI_add]
      have rd : aZ (St E (frW X x' y' l' f' g' m' u' v')) (E.1 + (mo + 25)) (iI 320 * iI (h : Int) + iI ((x1 * 8 + y1) * 5 + j)) = some (iI (X.2.2.2.1 (mo + 25) (320 * (h : Int) + ((x1 * 8 + y1) * 5 + j)))) := by
        rw [iI_mul, iI_add, aZ_ok (mk25 rm) (by omega) (by omega) (by omega), frW_2]
      have hd : fX9_isNear_l37 (E.1 + mo) (iI (h : Int)) z2 z3 (iI l) (iI a) (iI x1) (iI y1) (iI j, St E (frW X x' y' l' f' g' m' u' v')) = if iI (X.2.2.2.1 (mo + 25) (320 * (h : Int) + ((x1 * 8 + y1) * 5 + j))) = 0 then some (.inl (iI (j + 1), St E (frW X x' y' l' f' g' m' u' v'))) else some (.inr (.inr (St E (frW X x' y' l' f' g' m' u' v')))) := by
        unfold fX9_isNear_l37 fX9_isNear_b86
        dsimp only
        rw [iI_add, if_neg nl, ic, some_bind, bI_t c, if_neg (show ¬ iI 1 = 0 by decide)]
        dsimp only
        rw [g9_51 rm.1, some_bind, ck, some_bind]
        dsimp only
        rw [rd, some_bind, iI_add]
      rw [hd]
      constructor
      · intro no
        rcases kv with e | e
        · rw [e, if_pos (by decide)]
        · exact absurd ⟨c, e⟩ no
      · intro yes
        rw [yes.2, if_neg (by decide)]
    · constructor
      · intro _
        unfold fX9_isNear_l37 fX9_isNear_b86
        dsimp only
        rw [iI_add, if_neg nl, ic, some_bind, bI_f c, if_pos (show iI 0 = 0 by decide)]
        dsimp only
        rw [iI_add]
      · intro yes
        exact absurd yes.1 c
  obtain ⟨z, e1, e2⟩ := iter_seek (F := fX9_isNear_l37 (E.1 + mo) (iI (h : Int)) z2 z3 (iI l) (iI a) (iI x1) (iI y1)) (fun j q => q = (iI j, s)) (fun j => onK V (X.2.2.2.1 (mo + 25)) h x1 y1 j) (fun j r => r = Sum.inr s) (fun r => r = Sum.inl s) (l - a) (l + a + 1)
    (fun j q j0 j1 hq np => by
      subst hq
      exact ⟨_, (body j (by omega) (by omega) (by omega)).1 np, rfl⟩)
    (fun j q j0 j1 hq np => by
      subst hq
      exact ⟨_, (body j (by omega) (by omega) (by omega)).2 np, rfl⟩)
    (fun q hq => by
      subst hq
      refine ⟨_, ?_, rfl⟩
      unfold fX9_isNear_l37
      dsimp only
      rw [iI_add, if_pos (by rw [iI_lt (by omega) (by omega) (by omega) (by omega)]; omega)])
    (by omega) (N := FU) (FU_big (by omega)) (a := (iI (l - a), s)) rfl
  refine ⟨z, e1, ?_⟩
  rcases e2 with ⟨j, j0, j1, w, -, e⟩ | ⟨np, e⟩
  · exact Or.inr ⟨e, j, ⟨by omega, by omega⟩, w⟩
  · exact Or.inl ⟨e, fun ⟨l1, b, w⟩ => np l1 (by omega) (by omega) w⟩
theorem m_near2 {h : Nat} {x y l a x1 : Int} {s : Hp} {z2 : Int32} (rm : mKd E mo) (hV : VOK V) (hh : h < 24) (a0 : 0 ≤ a ∧ a ≤ 1) (l0 : 0 ≤ l ∧ l < 5) (y0 : 0 ≤ y ∧ y < 8) (xb : -1 ≤ x1 ∧ x1 ≤ 8) (hkb : ∀ x y l : Int, ((0 ≤ x ∧ x < V.1 1) ∧ (0 ≤ y ∧ y < V.1 2)) ∧ (0 ≤ l ∧ l < V.1 3) → X.2.2.2.1 (mo + 25) (320 * (h : Int) + ((x * 8 + y) * 5 + l)) = 0 ∨ X.2.2.2.1 (mo + 25) (320 * (h : Int) + ((x * 8 + y) * 5 + l)) = 1) (R : RfS E B V 0 F G P X s) : ∃ z, iter (fX9_isNear_l21 (E.1 + mo) (iI (h : Int)) z2 (iI y) (iI l) (iI a) (iI x1)) FU (iI (y - a), s) = some z ∧ ((z = Sum.inl s ∧ ¬ ∃ y1 l1, (y - a ≤ y1 ∧ y1 ≤ y + a) ∧ (l - a ≤ l1 ∧ l1 ≤ l + a) ∧ onK V (X.2.2.2.1 (mo + 25)) h x1 y1 l1) ∨ (z = Sum.inr s ∧ ∃ y1 l1, (y - a ≤ y1 ∧ y1 ≤ y + a) ∧ (l - a ≤ l1 ∧ l1 ≤ l + a) ∧ onK V (X.2.2.2.1 (mo + 25)) h x1 y1 l1)) := by
  obtain ⟨z, e1, e2⟩ := iter_seek (F := fX9_isNear_l21 (E.1 + mo) (iI (h : Int)) z2 (iI y) (iI l) (iI a) (iI x1)) (fun j q => q = (iI j, s)) (fun j => ∃ l1, (l - a ≤ l1 ∧ l1 ≤ l + a) ∧ onK V (X.2.2.2.1 (mo + 25)) h x1 j l1) (fun j r => r = Sum.inr s) (fun r => r = Sum.inl s) (y - a) (y + a + 1)
    (fun j q j0 j1 hq np => by
      subst hq
      have nl : ¬ iI (y + a) < iI j := by rw [iI_lt (by omega) (by omega) (by omega) (by omega)]; omega
      obtain ⟨z, z1, zz⟩ := m_near3 (h := h) (x := x) (y := y) (l := l) (a := a) (x1 := x1) (y1 := j) (z2 := z2) (z3 := iI y) rm hV hh (fun _ _ _ => Or.inr (Or.inr trivial)) a0 l0 xb (by omega) hkb R
      refine ⟨_, ?_, rfl⟩
      unfold fX9_isNear_l21
      dsimp only
      rw [iI_add, if_neg nl, iI_sub]
      unfold lt_
      dsimp only
      rw [z1, some_bind]
      rcases zz with ⟨rfl, -⟩ | ⟨-, w⟩
      · rw [iI_add]
        rfl
      · exact absurd w np)
    (fun j q j0 j1 hq np => by
      subst hq
      have nl : ¬ iI (y + a) < iI j := by rw [iI_lt (by omega) (by omega) (by omega) (by omega)]; omega
      obtain ⟨z, z1, zz⟩ := m_near3 (h := h) (x := x) (y := y) (l := l) (a := a) (x1 := x1) (y1 := j) (z2 := z2) (z3 := iI y) rm hV hh (fun _ _ _ => Or.inr (Or.inr trivial)) a0 l0 xb (by omega) hkb R
      refine ⟨_, ?_, rfl⟩
      unfold fX9_isNear_l21
      dsimp only
      rw [iI_add, if_neg nl, iI_sub]
      unfold lt_
      dsimp only
      rw [z1, some_bind]
      rcases zz with ⟨-, w⟩ | ⟨rfl, -⟩
      · exact absurd np w
      · rfl)
    (fun q hq => by
      subst hq
      refine ⟨_, ?_, rfl⟩
      unfold fX9_isNear_l21
      dsimp only
      rw [iI_add, if_pos (by rw [iI_lt (by omega) (by omega) (by omega) (by omega)]; omega)])
    (by omega) (N := FU) (FU_big (by omega)) (a := (iI (y - a), s)) rfl
  refine ⟨z, e1, ?_⟩
  rcases e2 with ⟨j, j0, j1, ⟨l1, w1, w2⟩, -, e⟩ | ⟨np, e⟩
  · exact Or.inr ⟨e, j, l1, ⟨by omega, by omega⟩, w1, w2⟩
  · exact Or.inl ⟨e, fun ⟨y1, l1, b, w1, w2⟩ => np y1 (by omega) (by omega) ⟨l1, w1, w2⟩⟩
theorem m_isNear {h : Nat} {x y l a : Int} {s : Hp} (rm : mKd E mo) (hV : VOK V) (hh : h < 24) (a0 : 0 ≤ a ∧ a ≤ 1) (l0 : 0 ≤ l ∧ l < 5) (y0 : 0 ≤ y ∧ y < 8) (x0 : 0 ≤ x ∧ x < 8) (hkb : ∀ x y l : Int, ((0 ≤ x ∧ x < V.1 1) ∧ (0 ≤ y ∧ y < V.1 2)) ∧ (0 ≤ l ∧ l < V.1 3) → X.2.2.2.1 (mo + 25) (320 * (h : Int) + ((x * 8 + y) * 5 + l)) = 0 ∨ X.2.2.2.1 (mo + 25) (320 * (h : Int) + ((x * 8 + y) * 5 + l)) = 1) (R : RfS E B V 0 F G P X s) : ∃ b, fX9_isNear (E.1 + mo) (iI (h : Int)) (iI x) (iI y) (iI l) (iI a) s = some (iI b, s) ∧ ((b = 0 ∧ ¬ ∃ x1 y1 l1, (x - a ≤ x1 ∧ x1 ≤ x + a) ∧ (y - a ≤ y1 ∧ y1 ≤ y + a) ∧ (l - a ≤ l1 ∧ l1 ≤ l + a) ∧ onK V (X.2.2.2.1 (mo + 25)) h x1 y1 l1) ∨ (b = 1 ∧ ∃ x1 y1 l1, (x - a ≤ x1 ∧ x1 ≤ x + a) ∧ (y - a ≤ y1 ∧ y1 ≤ y + a) ∧ (l - a ≤ l1 ∧ l1 ≤ l + a) ∧ onK V (X.2.2.2.1 (mo + 25)) h x1 y1 l1)) := by
  obtain ⟨z, e1, e2⟩ := iter_seek (F := fX9_isNear_l6 (E.1 + mo) (iI (h : Int)) (iI x) (iI y) (iI l) (iI a)) (fun j q => q = (iI j, s)) (fun j => ∃ y1 l1, (y - a ≤ y1 ∧ y1 ≤ y + a) ∧ (l - a ≤ l1 ∧ l1 ≤ l + a) ∧ onK V (X.2.2.2.1 (mo + 25)) h j y1 l1) (fun j r => r = Sum.inr s) (fun r => r = Sum.inl s) (x - a) (x + a + 1)
    (fun j q j0 j1 hq np => by
      subst hq
      have nl : ¬ iI (x + a) < iI j := by rw [iI_lt (by omega) (by omega) (by omega) (by omega)]; omega
      obtain ⟨z, z1, zz⟩ := m_near2 (h := h) (x := x) (y := y) (l := l) (a := a) (x1 := j) (z2 := iI x) rm hV hh a0 l0 y0 (by omega) hkb R
      refine ⟨_, ?_, rfl⟩
      unfold fX9_isNear_l6
      dsimp only
      rw [iI_add, if_neg nl, iI_sub]
      unfold lt_
      dsimp only
      rw [z1, some_bind]
      rcases zz with ⟨rfl, -⟩ | ⟨-, w⟩
      · rw [iI_add]
        rfl
      · exact absurd w np)
    (fun j q j0 j1 hq np => by
      subst hq
      have nl : ¬ iI (x + a) < iI j := by rw [iI_lt (by omega) (by omega) (by omega) (by omega)]; omega
      obtain ⟨z, z1, zz⟩ := m_near2 (h := h) (x := x) (y := y) (l := l) (a := a) (x1 := j) (z2 := iI x) rm hV hh a0 l0 y0 (by omega) hkb R
      refine ⟨_, ?_, rfl⟩
      unfold fX9_isNear_l6
      dsimp only
      rw [iI_add, if_neg nl, iI_sub]
      unfold lt_
      dsimp only
      rw [z1, some_bind]
      rcases zz with ⟨-, w⟩ | ⟨rfl, -⟩
      · exact absurd np w
      · rfl)
    (fun q hq => by
      subst hq
      refine ⟨_, ?_, rfl⟩
      unfold fX9_isNear_l6
      dsimp only
      rw [iI_add, if_pos (by rw [iI_lt (by omega) (by omega) (by omega) (by omega)]; omega)])
    (by omega) (N := FU) (FU_big (by omega)) (a := (iI (x - a), s)) rfl
  have hd : fX9_isNear (E.1 + mo) (iI (h : Int)) (iI x) (iI y) (iI l) (iI a) s = Sum.elim (fun r15a => some ((iI 0), r15a)) (fun r15b => some ((iI 1), r15b)) z := by
    unfold fX9_isNear
    obtain ⟨x', y', l', f', g', m', u', v', rfl⟩ := R.1
    rw [c9 rm.1, some_bind, iI_sub]
    unfold lt_
    dsimp only
    rw [e1, some_bind]
  rcases e2 with ⟨j, j0, j1, ⟨y1, l1, w1, w2, w3⟩, -, rfl⟩ | ⟨np, rfl⟩
  · exact ⟨1, hd, Or.inr ⟨rfl, j, y1, l1, ⟨by omega, by omega⟩, w1, w2, w3⟩⟩
  · exact ⟨0, hd, Or.inl ⟨rfl, fun ⟨x1, y1, l1, b, w1, w2, w3⟩ => np x1 (by omega) (by omega) ⟨y1, l1, w1, w2, w3⟩⟩⟩
end MEE
