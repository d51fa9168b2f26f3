/-! doors: both answer alike -/
theorem p8_clr : ∀ v : Fin 32, v.val ≠ 0 → p8 (v.val &&& (v.val - 1)) + 1 = p8 v.val ∧ (v.val &&& (v.val - 1)) < 32 ∧ iI (v.val : Int) &&& (iI (v.val : Int) - iI 1) = iI ((v.val &&& (v.val - 1) : Nat) : Int) := by decide +kernel
theorem p8_sub : ∀ a b : Fin 32, a.val &&& b.val = a.val → p8 a.val ≤ p8 b.val ∧ (p8 a.val = p8 b.val → a.val = b.val) := by decide +kernel
theorem p8_z : ∀ a : Fin 32, p8 a.val = 0 → a.val = 0 := by decide +kernel
def j6e (x : Int32) : Int32 :=
  let z1 := x - ((iush x (iI 1)) &&& (iI 1431655765))
  let z2 := (z1 &&& (iI 858993459)) + ((iush z1 (iI 2)) &&& (iI 858993459))
  let z3 := (z2 + (iush z2 (iI 4))) &&& (iI 252645135)
  let z4 := z3 + (iush z3 (iI 8))
  let z5 := z4 + (iush z4 (iI 16))
  z5 &&& (iI 63)
theorem j6_key : ∀ m : Fin 32, j6e (iI (m.val : Int)) = iI ((p8 m.val : Nat) : Int) := by decide +kernel
theorem j6_bitCount {m : Nat} {s : Hp} (hm : m < 32) : fJ6_bitCount_0f7a4 (iI (m : Int)) s = some (iI (p8 m : Int), s) := by
  have := j6_key ⟨m, hm⟩
  simp only at this
  rw [← this]
  rfl
theorem m_sizeOf {m : Nat} {s : Hp} (hm : m < 32) : fX9_sizeOf (iI (m : Int)) s = some (iI (p8 m : Int), s) := by
  have b8 : ∀ v : Fin 32, p8 v.val ≤ 5 := by decide
  obtain ⟨z, e1, rfl⟩ := iter_n (F := fX9_sizeOf_l4) (fun n a => ∃ v p : Nat, v < 32 ∧ a = (iI (p : Int), iI (v : Int), s) ∧ p + p8 v = p8 m ∧ n = p8 v) (fun z => z = (iI (p8 m : Int), s))
    (fun n a ha => by
      obtain ⟨v, p, hv, rfl, h1, h2⟩ := ha
      by_cases q : v = 0
      · subst q
        refine Or.inr ⟨_, ?_, rfl⟩
        unfold fX9_sizeOf_l4
        dsimp only
        have z8 : p8 0 = 0 := by decide
        have ep : p = p8 m := by omega
        rw [if_pos (by decide), ep]
      · obtain ⟨c1, c2, c3⟩ := p8_clr ⟨v, hv⟩ q
        simp only at c1 c2 c3
        refine Or.inl ⟨_, p8 (v &&& (v - 1)), ?_, by omega, v &&& (v - 1), p + 1, c2, rfl, by omega, rfl⟩
        unfold fX9_sizeOf_l4 lt_
        dsimp only
        rw [if_neg (by rw [iI_0, iI_eq (by omega) (by omega) (by omega) (by omega)]; omega), c3, iI_add]
        rfl)
    (p8 m) (iI 0, iI (m : Int), s) FU ⟨m, 0, hm, rfl, by omega, rfl⟩ (by have := b8 ⟨m, hm⟩; simp only at this; show p8 m < 1000000; omega)
  unfold fX9_sizeOf
  rw [e1, some_bind]
/-- b is no worse than m: more doors, or as many and a smaller number -/
def bet (b m : Nat) : Prop := p8 m < p8 b ∨ (p8 m = p8 b ∧ b ≤ m)
def upb (b m : Nat) : Nat := if p8 b < p8 m ∨ (p8 m = p8 b ∧ m < b) then m else b
theorem upb_c {b m : Nat} : bet (upb b m) m ∧ (∀ m', bet b m' → bet (upb b m) m') ∧ (upb b m = b ∨ upb b m = m) := by
  unfold upb bet
  by_cases q : p8 b < p8 m ∨ (p8 m = p8 b ∧ m < b)
  · rw [if_pos q]
    exact ⟨by omega, fun m' w => by omega, Or.inr rfl⟩
  · rw [if_neg q]
    exact ⟨by omega, fun m' w => w, Or.inl rfl⟩
section DRS
variable {E : Ev} {B C X : Bk} {n d : Nat} {V : Vy}
def bdS (X : Bk) (n : Int) (b : Nat) : Prop := b < 32 ∧ (∀ k, 0 ≤ k → k < n → onJ X (mo + 21) k = true → bet b (k % 32).toNat) ∧ (b = 0 ∨ ∃ k, 0 ≤ k ∧ k < n ∧ onJ X (mo + 21) k = true ∧ k % 32 = (b : Int))
theorem m_ds0 {x y l f g m u v x' y' l' f' g' : Int} {i i0 b m' : Nat} {w : Int64} {x3 : Int32} (rm : mKd E mo) (dk : dOK x' y' l' f' g' (m' : Int)) (ek : 64 * (i : Int) + (i0 : Int) = cdW x' y' l' f' g' (m' : Int)) (b0 : b < 32) (wz : ¬ w = 0) (lo : fX9_lowest w (St E (frW X x y l f g m u v)) = some (iI (i0 : Int), St E (frW X x y l f g m u v))) : fX9_doors_l104 (E.1 + mo) x3 (iI (i : Int)) (iI (b : Int), w, St E (frW X x y l f g m u v)) = some (.inl (iI (upb b m' : Int), w &&& (w - 1), St E (frW X x' y' l' f' g' (m' : Int) u v))) := by
  have d' := dk
  obtain ⟨h1, h2, h3, h4, h5, h6⟩ := d'
  have m32 : m' < 32 := by omega
  have b8 : ∀ v : Fin 32, p8 v.val ≤ 5 := by decide
  have bm := b8 ⟨m', m32⟩
  have bb := b8 ⟨b, b0⟩
  simp only at bm bb
  have hd : fX9_doors_l104 (E.1 + mo) x3 (iI (i : Int)) (iI (b : Int), w, St E (frW X x y l f g m u v)) = if iI (p8 b : Int) < iI (p8 m' : Int) then some (.inl (iI (m' : Int), w &&& (w - 1), St E (frW X x' y' l' f' g' (m' : Int) u v))) else if iI (p8 m' : Int) = iI (p8 b : Int) then (if iI (b : Int) ≤ iI (m' : Int) then some (.inl (iI (b : Int), w &&& (w - 1), St E (frW X x' y' l' f' g' (m' : Int) u v))) else some (.inl (iI (m' : Int), w &&& (w - 1), St E (frW X x' y' l' f' g' (m' : Int) u v)))) else some (.inl (iI (b : Int), w &&& (w - 1), St E (frW X x' y' l' f' g' (m' : Int) u v))) := by
    unfold fX9_doors_l104 fX9_doors_b165 fX9_doors_b171 lt_
    dsimp only
    rw [if_neg (fun z => wz ((lg_cmp_eq _ _).mp z)), lo, some_bind]
    dsimp only
    rw [iI_mul, iI_add, ek, m_readsC rm dk, some_bind, g9_47 rm.1, some_bind, frW_47, m_sizeOf m32, some_bind]
    dsimp only
    rw [m_sizeOf b0, some_bind]
    dsimp only
    rw [g9_47 rm.1, some_bind, frW_47, some_bind, m_sizeOf m32, some_bind]
    dsimp only
    rw [m_sizeOf b0, some_bind]
    dsimp only
    rw [g9_47 rm.1, some_bind, frW_47]
    rfl
  rw [hd]
  unfold upb
  by_cases q1 : p8 b < p8 m'
  · rw [if_pos (by rw [iI_lt (by omega) (by omega) (by omega) (by omega)]; omega), if_pos (Or.inl q1)]
  · rw [if_neg (by rw [iI_lt (by omega) (by omega) (by omega) (by omega)]; omega)]
    by_cases q2 : p8 m' = p8 b
    · rw [if_pos (by rw [q2])]
      by_cases q3 : b ≤ m'
      · rw [if_pos (by rw [iI_le (by omega) (by omega) (by omega) (by omega)]; omega), if_neg (by omega)]
      · rw [if_neg (by rw [iI_le (by omega) (by omega) (by omega) (by omega)]; omega), if_pos (Or.inr ⟨q2, by omega⟩)]
    · rw [if_neg (by rw [iI_eq (by omega) (by omega) (by omega) (by omega)]; omega), if_neg (by omega)]
theorem m_ds1 {s : Hp} {i b : Nat} {x3 : Int32} (rm : mKd E mo) (hV : VOK V) (sv : SVl V X (mo + 21)) (hi : i < 16000) (hr : bdS X (64 * (i : Int)) b) (hs : anyF E X s) : ∃ s' b', iter (fX9_doors_l104 (E.1 + mo) x3 (iI (i : Int))) FU (iI (b : Int), X.2.2.2.2 (mo + 21) (i : Int), s) = some (iI ((b' : Nat) : Int), s') ∧ anyF E X s' ∧ bdS X (64 * (i : Int) + 64) b' := by
  have on' : ∀ j : Nat, j < 64 → onJ X (mo + 21) (64 * (i : Int) + (j : Int)) = tb (X.2.2.2.2 (mo + 21) (i : Int)) j := fun j hj => by
    unfold onJ
    rw [show (64 * (i : Int) + (j : Int)) / 64 = (i : Int) by omega, show ((64 * (i : Int) + (j : Int)) % 64).toNat = j by omega]
  obtain ⟨w, hw⟩ : ∃ w, w = X.2.2.2.2 (mo + 21) (i : Int) := ⟨_, rfl⟩
  rw [← hw] at on' ⊢
  obtain ⟨z, f1, s', r', rfl, an, t⟩ := iter_n (F := fX9_doors_l104 (E.1 + mo) x3 (iI (i : Int))) (fun n a => ∃ (p : Nat) (v : Int64) (s' : Hp) (r' : Nat), n + p = 64 ∧ a = (iI (r' : Int), v, s') ∧ (∀ j, j < 64 → tb v j = (tb w j && decide (p ≤ j))) ∧ anyF E X s' ∧ bdS X (64 * (i : Int) + (p : Int)) r') (fun z => ∃ (s' : Hp) (r' : Nat), z = (iI (r' : Int), s') ∧ anyF E X s' ∧ bdS X (64 * (i : Int) + 64) r')
    (fun n a ha => by
      obtain ⟨p, v, s', r', hp, rfl, hv, an, t⟩ := ha
      by_cases vz : v = 0
      · refine Or.inr ⟨(iI (r' : Int), s'), ?_, s', r', rfl, an, t.1, fun k k0 k1 o => ?_, ?_⟩
        · unfold fX9_doors_l104
          dsimp only
          rw [if_pos ((lg_cmp_eq _ _).mpr vz)]
        · by_cases c : k < 64 * (i : Int) + (p : Int)
          · exact t.2.1 k k0 c o
          · obtain ⟨j, rfl⟩ : ∃ j : Nat, k = 64 * (i : Int) + (j : Int) := ⟨(k - 64 * (i : Int)).toNat, by omega⟩
            have j1 : j < 64 := by omega
            have := hv j j1
            rw [← on' j j1, o, tb_z.mp vz j j1, decide_eq_true (show p ≤ j by omega)] at this
            cases this
        · rcases t.2.2 with c | ⟨k, a1, a2, a3⟩
          · exact Or.inl c
          · exact Or.inr ⟨k, a1, by omega, a3⟩
      · obtain ⟨i0, i1, e1, e2, e3⟩ := m_lowest (s := s') vz
        have wi : tb w i0 = true ∧ p ≤ i0 := by
          have := hv i0 i1
          rw [e2] at this
          have := this.symm
          rw [Bool.and_eq_true, decide_eq_true_eq] at this
          exact this
        have o0 : onJ X (mo + 21) (64 * (i : Int) + (i0 : Int)) = true := by rw [on' i0 i1]; exact wi.1
        obtain ⟨c, l, f, g, m, tk, ek⟩ := sv _ (by omega) (by omega) o0
        have dk := tOK_d hV tk
        have fk := fk_cd dk
        have ek' : 64 * (i : Int) + (i0 : Int) = cdW (c % 8) (c / 8) l f g (m : Int) := ek
        rw [← ek'] at fk
        obtain ⟨x1, y1, l1, f1, g1, m1, u1, v1, rfl⟩ := an
        have run := m_ds0 (E := E) (X := X) (b := r') (i := i) (i0 := i0) (w := v) (x3 := x3) rm dk ek' t.1 vz e1
        have gap : ∀ j : Nat, j < 64 → p ≤ j → j < i0 → tb w j = false := fun j j1 j2 j3 => by
          have z := e3 j j3
          rw [hv j j1, decide_eq_true j2, Bool.and_true] at z
          exact z
        have m32 := tk.2.2.2.2
        obtain ⟨u1', u2', u3'⟩ := upb_c (b := r') (m := m)
        have ub : upb r' m < 32 := by
          rcases u3' with e | e
          · rw [e]
            exact t.1
          · rw [e]
            exact m32
        refine Or.inl ⟨_, 64 - (i0 + 1), run, by omega, i0 + 1, v &&& (v - 1), _, _, by omega, rfl, fun j hj => ?_, ⟨_, _, _, _, _, _, _, _, rfl⟩, ub, fun k k0 k1 o => ?_, ?_⟩
        · rw [tb_clr i1 e2 e3, hv j hj]
          by_cases c1 : j = i0
          · rw [c1]
            simp
          · by_cases c2 : p ≤ j
            · have : i0 < j ∨ j < i0 := by omega
              rcases this with c3 | c3
              · simp [c1, c2, show i0 + 1 ≤ j by omega]
              · have z := e3 j c3
                rw [hv j hj, decide_eq_true c2, Bool.and_true] at z
                simp [z]
            · simp [c2, show ¬ i0 + 1 ≤ j by omega]
        · by_cases c1 : k < 64 * (i : Int) + (p : Int)
          · exact u2' _ (t.2.1 k k0 c1 o)
          · obtain ⟨j, rfl⟩ : ∃ j : Nat, k = 64 * (i : Int) + (j : Int) := ⟨(k - 64 * (i : Int)).toNat, by omega⟩
            by_cases c2 : j = i0
            · subst c2
              rw [fk.1, Int.toNat_natCast]
              exact u1'
            · have := gap j (by omega) (by omega) (by omega)
              rw [← on' j (by omega), o] at this
              cases this
        · rcases u3' with e | e
          · rw [e]
            rcases t.2.2 with c3 | ⟨k, a1, a2, a3⟩
            · exact Or.inl c3
            · exact Or.inr ⟨k, a1, by omega, a3⟩
          · rw [e]
            exact Or.inr ⟨_, by omega, by omega, o0, fk.1⟩)
    64 (iI (b : Int), w, s) FU ⟨0, w, s, b, by omega, rfl, fun j hj => by simp, hs, by
      rw [show 64 * (i : Int) + ((0 : Nat) : Int) = 64 * (i : Int) by omega]
      exact hr⟩ (by show 64 < 1000000; omega)
  exact ⟨s', r', f1, an, t⟩
theorem m_ds2 {s : Hp} {x3 : Int32} (rm : mKd E mo) (hV : VOK V) (sv : SVl V X (mo + 21)) (hs : anyF E X s) : ∃ (s' : Hp) (b : Nat), iter (fX9_doors_l87 (E.1 + mo) x3) FU (iI 0, iI 0, s) = some (iI (b : Int), s') ∧ anyF E X s' ∧ bdS X 1024000 b := by
  obtain ⟨z, h1, s', r, rfl, an, t⟩ := iter_acc (F := fX9_doors_l87 (E.1 + mo) x3) (fun i a => ∃ (s' : Hp) (r : Nat), a = (iI (r : Int), iI (i : Int), s') ∧ anyF E X s' ∧ bdS X (64 * (i : Int)) r) 16000 (fun z => ∃ (s' : Hp) (r : Nat), z = (iI (r : Int), s') ∧ anyF E X s' ∧ bdS X 1024000 r)
    (fun i a hi ha => by
      obtain ⟨s', r, rfl, an, t⟩ := ha
      obtain ⟨s2, r2, g1, g2, g3⟩ := m_ds1 (E := E) (X := X) (V := V) (i := i) (x3 := x3) rm hV sv hi t an
      refine ⟨(iI (r2 : Int), iI ((i + 1 : Nat) : Int), s2), ?_, s2, r2, rfl, g2, by rw [show 64 * ((i + 1 : Nat) : Int) = 64 * (i : Int) + 64 by omega]; exact g3⟩
      obtain ⟨x', y', l', f', g', m', u, v, rfl⟩ := an
      unfold fX9_doors_l87
      dsimp only
      rw [if_neg (by rw [iI_le (by omega) (by omega) (by omega) (by omega)]; omega), g9_40 rm.1, some_bind, aL_ok (mk21 rm) (by omega) (by omega) (by omega), some_bind, frW_2, g1, some_bind, iI_add]
      rfl)
    (fun a ha => by
      obtain ⟨s', r, rfl, an, t⟩ := ha
      refine ⟨(iI (r : Int), s'), ?_, s', r, rfl, an, t⟩
      unfold fX9_doors_l87
      dsimp only
      rw [if_pos (by decide)]) (N := FU) (by show 16000 < 1000000; omega) (a := (iI 0, iI 0, s)) ⟨s, 0, rfl, hs, by omega, fun k k0 k1 => by omega, Or.inl rfl⟩
  exact ⟨s', r, h1, an, t⟩
theorem bdS_P {cnt F G b : Nat} {P : StP} {s : Hp} (hF : F ≤ 9) (hG : G ≤ 9) (R : RfS E B V cnt F G P X s) (t : bdS X 1024000 b) : b < 32 ∧ (∀ m, (∃ c l s u, P c l s u m) → bet b m) ∧ (b = 0 ∨ ∃ c l s u, P c l s u b) := by
  obtain ⟨r1, r2, r3, r4, r5, r6, r7⟩ := R
  have hV := r3.2.1
  obtain ⟨b1, t2, t3⟩ := t
  refine ⟨b1, fun m ⟨c, l, s, u, w⟩ => ?_, ?_⟩
  · have b := r7 _ _ _ _ _ w
    have tk : tOK V (c : Int) (l : Int) ((F - s : Nat) : Int) ((G - u : Nat) : Int) m := ⟨b.1, by omega, by omega, by omega, b.2.2.2.2⟩
    have on := (r6 c l (F - s) (G - u) m tk).mpr ⟨by omega, by omega, by rw [show F - (F - s) = s by omega, show G - (G - u) = u by omega]; exact w⟩
    have kb := cdC_b hV tk
    have fk := fk_cd (tOK_d hV tk)
    have := t2 (cdC (c : Int) (l : Int) ((F - s : Nat) : Int) ((G - u : Nat) : Int) m) kb.1 kb.2 on
    have e1 : cdC (c : Int) (l : Int) ((F - s : Nat) : Int) ((G - u : Nat) : Int) m % 32 = (m : Int) := fk.1
    rw [e1, Int.toNat_natCast] at this
    exact this
  · rcases t3 with e | ⟨k, k0, k1, k2, k3⟩
    · exact Or.inl e
    · obtain ⟨c, l, f, g, m, tk, ek⟩ := r5 k k0 k1 k2
      have tk' := tk
      obtain ⟨⟨q1, q2, q3⟩, q4, q5, q6, q7⟩ := tk'
      obtain ⟨c, rfl⟩ : ∃ cN : Nat, c = (cN : Int) := ⟨c.toNat, by omega⟩
      obtain ⟨l, rfl⟩ : ∃ lN : Nat, l = (lN : Int) := ⟨l.toNat, by omega⟩
      obtain ⟨f, rfl⟩ : ∃ fN : Nat, f = (fN : Int) := ⟨f.toNat, by omega⟩
      obtain ⟨g, rfl⟩ : ∃ gN : Nat, g = (gN : Int) := ⟨g.toNat, by omega⟩
      have fk := fk_cd (tOK_d hV tk)
      have e1 : cdC (c : Int) (l : Int) (f : Int) (g : Int) m % 32 = (m : Int) := fk.1
      rw [ek] at k2 k3
      have em : m = b := by omega
      subst em
      obtain ⟨p1, p2, p3⟩ := (r6 c l f g m tk).mp k2
      exact Or.inr ⟨c, l, _, _, p3⟩
/-- less sand: the same states, those with no more spent -/
theorem Pt_lim {S G F c0 L m0 : Nat} {U : Nat → Nat → Nat → Nat} (hF : F ≤ S) : ∀ {j : Nat}, ∀ c l s u m, Pt V F G U 0 (iP c0 L m0) j c l s u m ↔ Pt V S G U 0 (iP c0 L m0) j c l s u m ∧ s ≤ F
  | 0 => fun c l s u m => by
    constructor
    · rintro ⟨rfl, rfl, rfl, rfl, rfl⟩
      exact ⟨⟨rfl, rfl, rfl, rfl, rfl⟩, by omega⟩
    · exact fun w => w.1
  | j + 1 => fun c' l' s' u' m' => by
    have ih : ∀ c l s u m, Pt V F G U 0 (iP c0 L m0) j c l s u m ↔ Pt V S G U 0 (iP c0 L m0) j c l s u m ∧ s ≤ F := Pt_lim hF
    constructor
    · rintro ⟨c, l, s, u, m, a, p, ok, e1, e2, e3, e4, e5⟩
      obtain ⟨w1, w2⟩ := (ih c l s u m).mp p
      refine ⟨⟨c, l, s, u, m, a, w1, ?_, e1, e2, e3, e4, e5⟩, ?_⟩
      · unfold okA at ok ⊢
        omega
      · unfold okA at ok
        split at e3 <;> omega
    · rintro ⟨⟨c, l, s, u, m, a, p, ok, e1, e2, e3, e4, e5⟩, hs⟩
      have hs0 : s ≤ F := by split at e3 <;> omega
      refine ⟨c, l, s, u, m, a, (ih c l s u m).mpr ⟨p, hs0⟩, ?_, e1, e2, e3, e4, e5⟩
      unfold okA at ok ⊢
      split at e3 <;> omega
/-- who hangs on keeps what was visited -/
theorem PtD_ext {i : Int} {S G L k c0 : Nat} (N : RN V i S G L k) (hc0 : scV V i = (c0 : Int)) : ∀ (e j : Nat), ((j + e : Nat) : Int) ≤ V.1 4 → ∀ c l s u m, PtD V S G L c0 j c l s u m → ∃ c2 l2 m2, PtD V S G L c0 (j + e) c2 l2 s u m2 ∧ m &&& m2 = m
  | 0, j, _ => fun c l s u m w => ⟨c, l, m, w, Nat.and_self m⟩
  | e + 1, j, hj => fun c l s u m w => by
    obtain ⟨c1, l1, m1, w1, w2⟩ := PtD_ext N hc0 e j (by omega) c l s u m w
    have hV := N.1
    obtain ⟨c0', hc0', c64, cok, hL⟩ := scV_b N
    have ec : c0' = c0 := by omega
    subst ec
    have hk := N.2.2.2.2.2.1
    have v9 := hV.2.2.2.2.2.2.2.2.1
    have hU : ∀ l c m, l < k → c < 64 → m < 2 ^ (V.1 9).toNat → upD V l c m < 2 ^ (V.1 9).toNat := fun l c m _ _ h => upD_lt rfl (by omega) h
    have b := Pt_PB (U := upD V) (T := 2 ^ (V.1 9).toNat) hV hk hU (iP_PB cok hL (hU L c0' 0 hL c64 (Nat.two_pow_pos _))) (j := j + e) (by omega) c1 l1 s u m1 w1
    have ci := crX_in (w := V.2.1 (l1 : Int) ((j + e : Nat) : Int)) b.1 hV.1.2
    have cl := cl_c (V := V) (h := j + e) (l := (l1 : Int))
    obtain ⟨c2, hc2⟩ : ∃ c2 : Nat, crX (V.1 1) (V.1 2) (c1 : Int) (V.2.1 (l1 : Int) ((j + e : Nat) : Int)) = (c2 : Int) := ⟨_, (Int.toNat_of_nonneg ci.1).symm⟩
    obtain ⟨l2, hl2⟩ : ∃ l2 : Nat, clA V ((j + e : Nat) : Int) (l1 : Int) = (l2 : Int) := ⟨(clA V ((j + e : Nat) : Int) (l1 : Int)).toNat, by omega⟩
    refine ⟨c2, l2, upD V l2 c2 m1, ⟨c1, l1, s, u, m1, 0, w1, Or.inl rfl, hc2.symm, hl2.symm, by simp, by simp, rfl⟩, ?_⟩
    unfold upD
    split
    · rw [← w2, Nat.and_assoc, Nat.and_or_distrib_left, Nat.and_self]
      refine Nat.eq_of_testBit_eq (fun i => ?_)
      simp only [Nat.testBit_and, Nat.testBit_or]
      cases m.testBit i <;> cases m1.testBit i <;> simp
    · exact w2
end DRS
