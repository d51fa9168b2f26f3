/-! the most sand left with all doors of a set -/
def fkC (k : Int) : Int := (k / 320) % 10
theorem fk_cd {x y l f g m : Int} (d : dOK x y l f g m) : cdW x y l f g m % 32 = m ∧ fkC (cdW x y l f g m) = f := by
  obtain ⟨h1, h2, h3, h4, h5, h6⟩ := d
  obtain ⟨n2, hn⟩ : ∃ n2, n2 = (x * 8 + y) * 5 + l := ⟨_, rfl⟩
  unfold cdW fkC
  rw [← hn]
  omega
/-- r is the most sand of the set's states below n with the mark q, -1 where there is none -/
def tlS (X : Bk) (q n r : Int) : Prop := (-1 ≤ r ∧ r ≤ 9) ∧ (∀ k, 0 ≤ k → k < n → onJ X (mo + 21) k = true → k % 32 = q → fkC k ≤ r) ∧ (r = -1 ∨ ∃ k, 0 ≤ k ∧ k < n ∧ onJ X (mo + 21) k = true ∧ k % 32 = q ∧ fkC k = r)
section TL
variable {E : Ev} {X : Bk} {V : Vy} {q : Int}
set_option maxHeartbeats 200000 in
theorem m_tl0 {x y l f g m u v x' y' l' f' g' m' k b : Int} {i i0 : Nat} {w : Int64} (rm : mKd E mo) (d : dOK x' y' l' f' g' m') (ek : 64 * (i : Int) + (i0 : Int) = cdW x' y' l' f' g' m') (q0 : 0 ≤ q ∧ q < 32) (b0 : -1 ≤ b ∧ b ≤ 9) (wz : ¬ w = 0) (lo : fX9_lowest w (St E (frW X x y l f g m u v)) = some (iI (i0 : Int), St E (frW X x y l f g m u v))) : fX9_tourLeft_l19 (E.1 + mo) (iI q) (iI (i : Int)) (iI b, w, St E (frW X x y l f g m u v)) = some (.inl (iI (if m' = q ∧ b < f' then f' else b), w &&& (w - 1), St E (frW X x' y' l' f' g' m' u v))) := by
  have d' := d
  obtain ⟨h1, h2, h3, h4, h5, h6⟩ := d'
  unfold fX9_tourLeft_l19
  dsimp only
  rw [if_neg (fun z => wz ((lg_cmp_eq _ _).mp z)), lo, some_bind]
  dsimp only
  rw [iI_mul, iI_add, ek, m_readsC rm d, some_bind, g9_47 rm.1, some_bind, frW_47]
  unfold fX9_tourLeft_b61 lt_
  by_cases e : m' = q
  · rw [if_pos (by rw [e]), g9_45 rm.1, some_bind, frW_45]
    by_cases c : f' ≤ b
    · rw [if_pos ((iI_le (by omega) (by omega) (by omega) (by omega)).mpr c), if_neg (by omega)]
    · rw [if_neg (fun z => c ((iI_le (by omega) (by omega) (by omega) (by omega)).mp z)), some_bind, if_pos ⟨e, by omega⟩]
  · rw [if_neg (fun z => e ((iI_eq (by omega) (by omega) (by omega) (by omega)).mp z)), if_neg (fun z => e z.1)]
theorem m_tl1 {s : Hp} {i : Nat} {r : Int} (rm : mKd E mo) (hV : VOK V) (sv : SVl V X (mo + 21)) (hi : i < 16000) (q0 : 0 ≤ q ∧ q < 32) (hr : tlS X q (64 * (i : Int)) r) (hs : anyF E X s) : ∃ s' r', iter (fX9_tourLeft_l19 (E.1 + mo) (iI q) (iI (i : Int))) FU (iI r, X.2.2.2.2 (mo + 21) (i : Int), s) = some (iI r', s') ∧ anyF E X s' ∧ tlS X q (64 * (i : Int) + 64) r' := by
  have on' : ∀ j : Nat, j < 64 → onJ X (mo + 21) (64 * (i : Int) + (j : Int)) = tb (X.2.2.2.2 (mo + 21) (i : Int)) j := fun j hj => by
    unfold onJ
    rw [show (64 * (i : Int) + (j : Int)) / 64 = (i : Int) by omega, show ((64 * (i : Int) + (j : Int)) % 64).toNat = j by omega]
  obtain ⟨w, hw⟩ : ∃ w, w = X.2.2.2.2 (mo + 21) (i : Int) := ⟨_, rfl⟩
  rw [← hw] at on' ⊢
  obtain ⟨z, f1, s', r', rfl, an, t⟩ := iter_n (F := fX9_tourLeft_l19 (E.1 + mo) (iI q) (iI (i : Int))) (fun n a => ∃ (p : Nat) (v : Int64) (s' : Hp) (r' : Int), n + p = 64 ∧ a = (iI r', v, s') ∧ (∀ j, j < 64 → tb v j = (tb w j && decide (p ≤ j))) ∧ anyF E X s' ∧ tlS X q (64 * (i : Int) + (p : Int)) r') (fun z => ∃ s' r', z = (iI r', s') ∧ anyF E X s' ∧ tlS X q (64 * (i : Int) + 64) r')
    (fun n a ha => by
      obtain ⟨p, v, s', r', hp, rfl, hv, an, t⟩ := ha
      by_cases vz : v = 0
      · refine Or.inr ⟨(iI r', s'), ?_, s', r', rfl, an, t.1, fun k k0 k1 o m => ?_, ?_⟩
        · unfold fX9_tourLeft_l19
          dsimp only
          rw [if_pos ((lg_cmp_eq _ _).mpr vz)]
        · by_cases c : k < 64 * (i : Int) + (p : Int)
          · exact t.2.1 k k0 c o m
          · obtain ⟨j, rfl⟩ : ∃ j : Nat, k = 64 * (i : Int) + (j : Int) := ⟨(k - 64 * (i : Int)).toNat, by omega⟩
            have j1 : j < 64 := by omega
            have := hv j j1
            rw [← on' j j1, o, tb_z.mp vz j j1, decide_eq_true (show p ≤ j by omega)] at this
            cases this
        · rcases t.2.2 with c | ⟨k, a1, a2, a3⟩
          · exact Or.inl c
          · exact Or.inr ⟨k, a1, by omega, a3⟩
      · obtain ⟨i0, i1, e1, e2, e3⟩ := m_lowest (s := s') vz
        have wi : tb w i0 = true ∧ p ≤ i0 := by
          have := hv i0 i1
          rw [e2] at this
          have := this.symm
          rw [Bool.and_eq_true, decide_eq_true_eq] at this
          exact this
        have o0 : onJ X (mo + 21) (64 * (i : Int) + (i0 : Int)) = true := by rw [on' i0 i1]; exact wi.1
        obtain ⟨c, l, f, g, m, tk, ek⟩ := sv _ (by omega) (by omega) o0
        have dk := tOK_d hV tk
        have fk := fk_cd dk
        have ek' : 64 * (i : Int) + (i0 : Int) = cdW (c % 8) (c / 8) l f g (m : Int) := ek
        rw [← ek'] at fk
        obtain ⟨x1, y1, l1, f1, g1, m1, u1, v1, rfl⟩ := an
        have run := m_tl0 (E := E) (X := X) (q := q) (b := r') (i := i) (i0 := i0) (w := v) (k := 0) rm dk ek' q0 t.1 vz e1
        have gap : ∀ j : Nat, j < 64 → p ≤ j → j < i0 → tb w j = false := fun j j1 j2 j3 => by
          have z := e3 j j3
          rw [hv j j1, decide_eq_true j2, Bool.and_true] at z
          exact z
        have f9 := tk.2.2.1
        refine Or.inl ⟨_, 64 - (i0 + 1), run, by omega, i0 + 1, v &&& (v - 1), _, _, by omega, rfl, fun j hj => ?_, ⟨_, _, _, _, _, _, _, _, rfl⟩, ?_, fun k k0 k1 o mq => ?_, ?_⟩
        · rw [tb_clr i1 e2 e3, hv j hj]
          by_cases c1 : j = i0
          · rw [c1]
            simp
          · by_cases c2 : p ≤ j
            · have : i0 < j ∨ j < i0 := by omega
              rcases this with c3 | c3
              · simp [c1, c2, show i0 + 1 ≤ j by omega]
              · have z := e3 j c3
                rw [hv j hj, decide_eq_true c2, Bool.and_true] at z
                simp [z]
            · simp [c2, show ¬ i0 + 1 ≤ j by omega]
        · have := t.1
          split <;> omega
        · by_cases c1 : k < 64 * (i : Int) + (p : Int)
          · have := t.2.1 k k0 c1 o mq
            split <;> omega
          · obtain ⟨j, rfl⟩ : ∃ j : Nat, k = 64 * (i : Int) + (j : Int) := ⟨(k - 64 * (i : Int)).toNat, by omega⟩
            by_cases c2 : j = i0
            · subst c2
              rw [fk.2]
              rw [fk.1] at mq
              split <;> omega
            · have := gap j (by omega) (by omega) (by omega)
              rw [← on' j (by omega), o] at this
              cases this
        · by_cases c1 : (m : Int) = q ∧ r' < f
          · rw [if_pos c1]
            exact Or.inr ⟨_, by omega, by omega, o0, by rw [fk.1]; exact c1.1, fk.2⟩
          · rw [if_neg c1]
            rcases t.2.2 with c3 | ⟨k, a1, a2, a3⟩
            · exact Or.inl c3
            · exact Or.inr ⟨k, a1, by omega, a3⟩)
    64 (iI r, w, s) FU ⟨0, w, s, r, by omega, rfl, fun j hj => by simp, hs, by
      rw [show 64 * (i : Int) + ((0 : Nat) : Int) = 64 * (i : Int) by omega]
      exact hr⟩ (by show 64 < 1000000; omega)
  exact ⟨s', r', f1, an, t⟩
theorem m_tourLeft {s : Hp} (rm : mKd E mo) (hV : VOK V) (sv : SVl V X (mo + 21)) (q0 : 0 ≤ q ∧ q < 32) (hs : anyF E X s) : ∃ s' r, fX9_tourLeft (E.1 + mo) (iI q) s = some (iI r, s') ∧ anyF E X s' ∧ tlS X q 1024000 r := by
  obtain ⟨z, h1, s', r, rfl, an, t⟩ := iter_acc (F := fX9_tourLeft_l4 (E.1 + mo) (iI q)) (fun i a => ∃ s' r, a = (iI r, iI (i : Int), s') ∧ anyF E X s' ∧ tlS X q (64 * (i : Int)) r) 16000 (fun z => ∃ s' r, z = (iI r, s') ∧ anyF E X s' ∧ tlS X q 1024000 r)
    (fun i a hi ha => by
      obtain ⟨s', r, rfl, an, t⟩ := ha
      obtain ⟨s2, r2, g1, g2, g3⟩ := m_tl1 (E := E) (X := X) (V := V) (q := q) (i := i) rm hV sv hi q0 t an
      refine ⟨(iI r2, iI ((i + 1 : Nat) : Int), s2), ?_, s2, r2, rfl, g2, by rw [show 64 * ((i + 1 : Nat) : Int) = 64 * (i : Int) + 64 by omega]; exact g3⟩
      obtain ⟨x', y', l', f', g', m', u, v, rfl⟩ := an
      unfold fX9_tourLeft_l4
      dsimp only
      rw [if_neg (by rw [iI_le (by omega) (by omega) (by omega) (by omega)]; omega), g9_40 rm.1, some_bind, aL_ok (mk21 rm) (by omega) (by omega) (by omega), some_bind, frW_2, g1, some_bind, iI_add]
      rfl)
    (fun a ha => by
      obtain ⟨s', r, rfl, an, t⟩ := ha
      refine ⟨(iI r, s'), ?_, s', r, rfl, an, t⟩
      unfold fX9_tourLeft_l4
      dsimp only
      rw [if_pos (by decide)]) (N := FU) (by show 16000 < 1000000; omega) (a := (iI (-1), iI 0, s)) ⟨s, -1, rfl, hs, by omega, fun k k0 k1 => by omega, Or.inl rfl⟩
  refine ⟨s', r, ?_, an, t⟩
  obtain ⟨x', y', l', f', g', m', u, v, rfl⟩ := hs
  unfold fX9_tourLeft
  rw [c9 rm.1, some_bind, h1, some_bind]
end TL
