/-! way: the reference's act of a state, and its walk -/
section WYA
variable {E : Ev} {B X : Bk} {V : Vy} {S G n h e x y l sd c1 l1 s1 u1 : Nat}
/-- one act is tried -/
theorem m_actTry {a : Int} {s : Hp} (rm : mKd E mo) (hS : S ≤ 9) (hG : G ≤ 9) (bX : RfB B V X) (an : anyF E X s) (a0 : 0 ≤ a ∧ a < 2) (he : (e : Int) < V.1 4) (hh : h ≤ e) (x0 : (x : Int) < V.1 1) (y0 : (y : Int) < V.1 2) (l0 : (l : Int) < V.1 3) (sS : sd ≤ S) (t : tOK V (c1 : Int) (l1 : Int) ((S : Int) - (s1 : Int)) ((G : Int) - (u1 : Int)) 0) (lw : ∀ s' u', Pt V S G U0 h (sP c1 l1 s1 u1) (e + 1 - h) (y * 8 + x) l s' u' 0 → sd ≤ s') : ∃ s' X', anyF E X' s' ∧ RfB B V X' ∧ (gdA V S G e (y * 8 + x) l sd h a c1 l1 s1 u1 → fX9_actOf_l3 (E.1 + mo) (iI (cdC (c1 : Int) (l1 : Int) ((S : Int) - (s1 : Int)) ((G : Int) - (u1 : Int)) 0)) (iI (h : Int)) (iI (e : Int)) (iI (x : Int)) (iI (y : Int)) (iI (l : Int)) (iI ((S : Int) - (sd : Int))) (iI a, s) = some (.inr (.inr (iI a, s')))) ∧ (¬ gdA V S G e (y * 8 + x) l sd h a c1 l1 s1 u1 → fX9_actOf_l3 (E.1 + mo) (iI (cdC (c1 : Int) (l1 : Int) ((S : Int) - (s1 : Int)) ((G : Int) - (u1 : Int)) 0)) (iI (h : Int)) (iI (e : Int)) (iI (x : Int)) (iI (y : Int)) (iI (l : Int)) (iI ((S : Int) - (sd : Int))) (iI a, s) = some (.inl (iI (a + 1), s'))) := by
  have hV := bX.2.1.2.1
  have v1 := hV.1
  have v2 := hV.2.1
  have v3 := hV.2.2.1
  have v4 := hV.2.2.2.1
  obtain ⟨x', y', l', f', g', m', u, v, rfl⟩ := an
  have td := tOK_d hV t
  have t' := t
  obtain ⟨⟨q0, q1, q2⟩, t2, t3, t4, t5⟩ := t'
  have rd := m_readsC (B := X) (x := x') (y := y') (l := l') (f := f') (g := g') (m := m') (u := u) (v := v) rm td
  have cde : cdW ((c1 : Int) % 8) ((c1 : Int) / 8) (l1 : Int) ((S : Int) - (s1 : Int)) ((G : Int) - (u1 : Int)) ((0 : Nat) : Int) = cdC (c1 : Int) (l1 : Int) ((S : Int) - (s1 : Int)) ((G : Int) - (u1 : Int)) 0 := rfl
  rw [cde] at rd
  have ac := m_actsF (m := ((0 : Nat) : Int)) (u := u) (v := v) (a := a) (h := (h : Int)) (x := (c1 : Int) % 8) (y := (c1 : Int) / 8) (l := (l1 : Int)) (f := (S : Int) - (s1 : Int)) (g := (G : Int) - (u1 : Int)) rm bX.2.1 a0.1 (by omega) (by omega) (by omega) t2 (by omega) (by omega) (by omega)
  rw [show (c1 : Int) / 8 * 8 + (c1 : Int) % 8 = (c1 : Int) by omega] at ac
  have ng : ¬ iI 2 ≤ iI a := by rw [iI_le (by omega) (by omega) (by omega) (by omega)]; omega
  by_cases ok : okA V a (l1 : Int) ((S : Int) - (s1 : Int)) ((G : Int) - (u1 : Int))
  · have tn := tOK_n (cnt := 0) (h := (h : Int)) hV t ok
    obtain ⟨⟨n0, n1, n2⟩, m2, m3, m4, m5⟩ := tn
    obtain ⟨c2, hc2⟩ : ∃ c2 : Nat, (c2 : Int) = ccA V a (h : Int) (c1 : Int) (l1 : Int) := ⟨_, Int.toNat_of_nonneg n0⟩
    obtain ⟨l2, hl2⟩ : ∃ l2 : Nat, (l2 : Int) = clA V (h : Int) (lvA a (l1 : Int)) := ⟨_, Int.toNat_of_nonneg m2.1⟩
    obtain ⟨s2, hs2⟩ : ∃ s2 : Nat, (s2 : Int) = (s1 : Int) + (if a = 1 then 1 else 0) := ⟨((s1 : Int) + (if a = 1 then 1 else 0)).toNat, by split <;> omega⟩
    obtain ⟨u2, hu2⟩ : ∃ u2 : Nat, (u2 : Int) = (u1 : Int) + (if a = 2 then 1 else 0) := ⟨((u1 : Int) + (if a = 2 then 1 else 0)).toNat, by split <;> omega⟩
    have nx : nxS V S G h a c1 l1 s1 u1 c2 l2 s2 u2 := ⟨ok, hc2, hl2, hs2, hu2⟩
    have t2' : tOK V (c2 : Int) (l2 : Int) ((S : Int) - (s2 : Int)) ((G : Int) - (u2 : Int)) 0 := by
      rw [hc2, hl2, ← fs_s hs2, ← gs_u hu2]
      exact ⟨⟨n0, n1, n2⟩, m2, m3, m4, by omega⟩
    have ar := ac.1 ok
    rw [← hc2, ← hl2, fs_s hs2, gs_u hu2] at ar
    obtain ⟨s3, X3, r1, r2⟩ := m_setOne (u := (c2 : Int) % 8) (v := (c2 : Int) / 8) rm hS hG bX t2'
    obtain ⟨s4, X4, r3, r4⟩ := m_freeTo (x1 := iI (cdC (c1 : Int) (l1 : Int) ((S : Int) - (s1 : Int)) ((G : Int) - (u1 : Int)) 0)) (x2 := iI (h : Int)) (x4 := iI (x : Int)) (x5 := iI (y : Int)) (x6 := iI (l : Int)) (x7 := iI ((S : Int) - (sd : Int))) (x8 := iI a) rm hS hG hV he hh r2
    obtain ⟨s5, rr, r5, r6, r7⟩ := m_mL rm hS hG x0 y0 l0 r4
    have run : fX9_actOf_l3 (E.1 + mo) (iI (cdC (c1 : Int) (l1 : Int) ((S : Int) - (s1 : Int)) ((G : Int) - (u1 : Int)) 0)) (iI (h : Int)) (iI (e : Int)) (iI (x : Int)) (iI (y : Int)) (iI (l : Int)) (iI ((S : Int) - (sd : Int))) (iI a, St E (frW X x' y' l' f' g' m' u v)) = if iI rr < iI ((S : Int) - (sd : Int)) then some (.inl (iI (a + 1), s5)) else some (.inr (.inr (iI a, s5))) := by
      have e7 : ∀ {β : Type} (k : Hp → Option β), (((fX9_empties (E.1 + (mo + 21)) (St E (frW X ((c2 : Int) % 8) ((c2 : Int) / 8) (l2 : Int) ((S : Int) - (s2 : Int)) ((G : Int) - (u2 : Int)) 0 ((c2 : Int) % 8) ((c2 : Int) / 8)))).bind fun s7 => (gR s7 (E.1 + mo) 9 40).bind fun v8 => (fX9_puts (E.1 + mo) v8 s7).bind k)) = k s3 := fun k => by
        have := congrArg (fun o => o.bind k) r1
        simp only [Option.bind_assoc, some_bind] at this
        exact this
      unfold fX9_actOf_l3 fX9_actOf_b88
      dsimp only
      rw [if_neg ng, rd, some_bind, ar, some_bind]
      dsimp only
      rw [if_neg (show ¬ iI 1 = 0 by decide), p9_47 rm.1, some_bind, frW_w47, g9_40 rm.1, some_bind]
      rw [e7]
      unfold lt_
      dsimp only
      rw [iI_add, r3, some_bind, r5, some_bind]
      dsimp only
      rw [iI_add]
    have key : gdA V S G e (y * 8 + x) l sd h a c1 l1 s1 u1 ↔ ¬ rr < (S : Int) - (sd : Int) := by
      rcases r7 with ⟨w1, w2⟩ | ⟨sm, w1, w2, ⟨um, w3⟩, w4⟩
      · constructor
        · rintro ⟨c3, l3, s3, u3, nx3, u4, p⟩
          obtain ⟨rfl, rfl, rfl, rfl⟩ := nxS_u nx nx3
          exact absurd p (w2 _ _)
        · intro w
          omega
      · have low := lw sm um (by
          rw [show e + 1 - h = (e + 1 - (h + 1)) + 1 by omega]
          exact Pt_nx nx w3)
        constructor
        · rintro ⟨c3, l3, s3, u3, nx3, u4, p⟩
          obtain ⟨rfl, rfl, rfl, rfl⟩ := nxS_u nx nx3
          have : ¬ sd < sm := fun q => w4 sd q u4 p
          omega
        · intro w
          have es : sm = sd := by omega
          rw [es] at w3
          exact ⟨c2, l2, s2, u2, nx, um, w3⟩
    have rb : -1 ≤ rr ∧ rr ≤ 9 := by
      rcases r7 with ⟨w1, w2⟩ | ⟨sm, w1, w2, -, -⟩ <;> omega
    refine ⟨s5, X4, r6.1, RfS_B r6, fun w => ?_, fun w => ?_⟩
    · rw [run, if_neg (by rw [iI_lt (by omega) (by omega) (by omega) (by omega)]; exact key.mp w)]
    · rw [run, if_pos (by rw [iI_lt (by omega) (by omega) (by omega) (by omega)]; exact Decidable.not_not.mp (fun q => w (key.mpr q)))]
  · have ar := ac.2 ok
    have no : ¬ gdA V S G e (y * 8 + x) l sd h a c1 l1 s1 u1 := fun ⟨c3, l3, s3, u3, nx3, _⟩ => ok nx3.1
    obtain ⟨s5, ar5, an5⟩ : ∃ s5, fX9_acts (E.1 + mo) (iI a) (iI (h : Int)) (St E (frW X ((c1 : Int) % 8) ((c1 : Int) / 8) (l1 : Int) ((S : Int) - (s1 : Int)) ((G : Int) - (u1 : Int)) ((0 : Nat) : Int) u v)) = some (iI 0, s5) ∧ anyF E X s5 := ⟨_, ar, _, _, _, _, _, _, _, _, rfl⟩
    refine ⟨s5, X, an5, bX, fun w => absurd w no, fun _ => ?_⟩
    unfold fX9_actOf_l3 fX9_actOf_b88
    dsimp only
    rw [if_neg ng, rd, some_bind, ar5, some_bind]
    dsimp only
    rw [if_pos (show iI 0 = 0 by decide), iI_add]
theorem m_actOf {s : Hp} (rm : mKd E mo) (hS : S ≤ 9) (hG : G ≤ 9) (bX : RfB B V X) (an : anyF E X s) (he : (e : Int) < V.1 4) (hh : h ≤ e) (x0 : (x : Int) < V.1 1) (y0 : (y : Int) < V.1 2) (l0 : (l : Int) < V.1 3) (sS : sd ≤ S) (t : tOK V (c1 : Int) (l1 : Int) ((S : Int) - (s1 : Int)) ((G : Int) - (u1 : Int)) 0) (lw : ∀ s' u', Pt V S G U0 h (sP c1 l1 s1 u1) (e + 1 - h) (y * 8 + x) l s' u' 0 → sd ≤ s') : ∃ (a : Int) (s' : Hp) (X' : Bk), fX9_actOf (E.1 + mo) (iI (cdC (c1 : Int) (l1 : Int) ((S : Int) - (s1 : Int)) ((G : Int) - (u1 : Int)) 0)) (iI (h : Int)) (iI (e : Int)) (iI (x : Int)) (iI (y : Int)) (iI (l : Int)) (iI ((S : Int) - (sd : Int))) s = some (iI a, s') ∧ anyF E X' s' ∧ RfB B V X' ∧ WR V S G e (y * 8 + x) l sd h a c1 l1 s1 u1 := by
  obtain ⟨r, e1, e2⟩ := iter_seek (F := fX9_actOf_l3 (E.1 + mo) (iI (cdC (c1 : Int) (l1 : Int) ((S : Int) - (s1 : Int)) ((G : Int) - (u1 : Int)) 0)) (iI (h : Int)) (iI (e : Int)) (iI (x : Int)) (iI (y : Int)) (iI (l : Int)) (iI ((S : Int) - (sd : Int)))) (fun j b => ∃ s' X', b = (iI j, s') ∧ anyF E X' s' ∧ RfB B V X') (fun j => gdA V S G e (y * 8 + x) l sd h j c1 l1 s1 u1) (fun j r => ∃ s' X', r = .inr (iI j, s') ∧ anyF E X' s' ∧ RfB B V X') (fun r => ∃ s' X', r = .inl s' ∧ anyF E X' s' ∧ RfB B V X') 0 2
    (fun j b j0 j1 hb np => by
      obtain ⟨s', X', rfl, an', b'⟩ := hb
      obtain ⟨s2, X2, g1, g2, -, g4⟩ := m_actTry rm hS hG b' an' ⟨j0, j1⟩ he hh x0 y0 l0 sS t lw
      exact ⟨_, g4 np, s2, X2, rfl, g1, g2⟩)
    (fun j b j0 j1 hb np => by
      obtain ⟨s', X', rfl, an', b'⟩ := hb
      obtain ⟨s2, X2, g1, g2, g3, -⟩ := m_actTry rm hS hG b' an' ⟨j0, j1⟩ he hh x0 y0 l0 sS t lw
      exact ⟨_, g3 np, s2, X2, rfl, g1, g2⟩)
    (fun b hb => by
      obtain ⟨s', X', rfl, an', b'⟩ := hb
      refine ⟨_, ?_, s', X', rfl, an', b'⟩
      unfold fX9_actOf_l3
      dsimp only
      rw [if_pos (by decide)]) (by omega) (N := FU) (FU_big (by omega)) (a := (iI 0, s)) ⟨s, X, rfl, an, bX⟩
  have hd : fX9_actOf (E.1 + mo) (iI (cdC (c1 : Int) (l1 : Int) ((S : Int) - (s1 : Int)) ((G : Int) - (u1 : Int)) 0)) (iI (h : Int)) (iI (e : Int)) (iI (x : Int)) (iI (y : Int)) (iI (l : Int)) (iI ((S : Int) - (sd : Int))) s = Sum.elim (fun r16a => some ((iI 2), r16a)) (fun r16b => some (r16b.1, r16b.2)) r := by
    obtain ⟨x', y', l', f', g', m', u, v, rfl⟩ := an
    unfold fX9_actOf
    rw [c9 rm.1, some_bind, e1, some_bind]
  rcases e2 with ⟨j, j0, j1, pj, nj, s', X', rfl, an', b'⟩ | ⟨nj, s', X', rfl, an', b'⟩
  · refine ⟨j, s', X', hd, an', b', ?_⟩
    rcases (show j = 0 ∨ j = 1 by omega) with rfl | rfl
    · exact Or.inl ⟨rfl, pj⟩
    · exact Or.inr (Or.inl ⟨rfl, nj 0 (by omega) (by omega), pj⟩)
  · exact ⟨2, s', X', hd, an', b', Or.inr (Or.inr ⟨rfl, nj 0 (by omega) (by omega), nj 1 (by omega) (by omega)⟩)⟩
end WYA
