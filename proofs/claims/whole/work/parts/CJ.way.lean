/-! way: one answer only; where the paths join -/
section WYU
variable {V : Vy} {S G L c0 c l e sd h hr : Nat}
theorem Pt_comp {P : StP} {c1 l1 s1 u1 : Nat} (p : Pt V S G U0 0 P h c1 l1 s1 u1 0) : ∀ j c l s u m, Pt V S G U0 h (sP c1 l1 s1 u1) j c l s u m → Pt V S G U0 0 P (h + j) c l s u m
  | 0, c, l, s, u, m, w => by
    obtain ⟨rfl, rfl, rfl, rfl, rfl⟩ := w
    exact p
  | j + 1, c', l', s', u', m', w => by
    obtain ⟨c, l, s, u, m, a, q, r⟩ := w
    rw [show j + h = h + j + 0 by omega] at r
    exact ⟨c, l, s, u, m, a, Pt_comp p j c l s u m q, r⟩
theorem Pt_nx {c1 l1 s1 u1 c2 l2 s2 u2 : Nat} {a : Int} (nx : nxS V S G h a c1 l1 s1 u1 c2 l2 s2 u2) {j c l s u m : Nat} (w : Pt V S G U0 (h + 1) (sP c2 l2 s2 u2) j c l s u m) : Pt V S G U0 h (sP c1 l1 s1 u1) (j + 1) c l s u m := by
  obtain ⟨ok, e1, e2, e3, e4⟩ := nx
  rw [Pt_front]
  refine Pt_mono (fun c l s u m q => ?_) _ _ _ _ _ _ w
  obtain ⟨rfl, rfl, rfl, rfl, rfl⟩ := q
  exact ⟨c1, l1, s1, u1, 0, a, ⟨rfl, rfl, rfl, rfl, rfl⟩, ok, e1, e2, e3, e4, rfl⟩
theorem Pt_n1 {P : StP} {c1 l1 s1 u1 c2 l2 s2 u2 : Nat} {a : Int} (nx : nxS V S G h a c1 l1 s1 u1 c2 l2 s2 u2) (p : Pt V S G U0 0 P h c1 l1 s1 u1 0) : Pt V S G U0 0 P (h + 1) c2 l2 s2 u2 0 := by
  obtain ⟨ok, e1, e2, e3, e4⟩ := nx
  exact ⟨c1, l1, s1, u1, 0, a, p, ok, e1, e2, e3, e4, rfl⟩
theorem nxS_u {c1 l1 s1 u1 c2 l2 s2 u2 c3 l3 s3 u3 : Nat} {a : Int} (n : nxS V S G h a c1 l1 s1 u1 c2 l2 s2 u2) (m : nxS V S G h a c1 l1 s1 u1 c3 l3 s3 u3) : c3 = c2 ∧ l3 = l2 ∧ s3 = s2 ∧ u3 = u2 := by
  obtain ⟨-, a1, a2, a3, a4⟩ := n
  obtain ⟨-, b1, b2, b3, b4⟩ := m
  omega
theorem WR_u {a b : Int} {c1 l1 s1 u1 : Nat} (w : WR V S G e c l sd h a c1 l1 s1 u1) (v : WR V S G e c l sd h b c1 l1 s1 u1) : a = b := by
  rcases w with ⟨rfl, w1⟩ | ⟨rfl, w1, w2⟩ | ⟨rfl, w1, w2⟩ <;> rcases v with ⟨rfl, v1⟩ | ⟨rfl, v1, v2⟩ | ⟨rfl, v1, v2⟩
  · rfl
  · exact absurd w1 v1
  · exact absurd w1 v1
  · exact absurd v1 w1
  · rfl
  · exact absurd w2 v2
  · exact absurd v1 w1
  · exact absurd v2 w2
  · rfl
theorem Wk_u : ∀ {h c1 l1 s1 u1 c2 l2 s2 u2 : Nat}, Wk V S G e c l sd c0 L h c1 l1 s1 u1 → Wk V S G e c l sd c0 L h c2 l2 s2 u2 → c2 = c1 ∧ l2 = l1 ∧ s2 = s1 ∧ u2 = u1
  | 0, _, _, _, _, _, _, _, _, w, v => by
    obtain ⟨rfl, rfl, rfl, rfl⟩ := w
    exact v
  | h + 1, _, _, _, _, _, _, _, _, w, v => by
    obtain ⟨x1, x2, x3, x4, a, w1, w2, w3⟩ := w
    obtain ⟨y1, y2, y3, y4, b, v1, v2, v3⟩ := v
    obtain ⟨rfl, rfl, rfl, rfl⟩ := Wk_u w1 v1
    have e := WR_u w2 v2
    subst e
    exact nxS_u w3 v3
theorem snE_u {e' sd' : Nat} (w : snE V S G L c0 c l e sd) (v : snE V S G L c0 c l e' sd') : e' = e ∧ sd' = sd := by
  obtain ⟨⟨u1, w1⟩, w2, w3⟩ := w
  obtain ⟨⟨u2, v1⟩, v2, v3⟩ := v
  have h1 : ¬ e < e' := fun q => v2 e q sd u1 w1
  have h2 : ¬ e' < e := fun q => w2 e' q sd' u2 v1
  have ee : e' = e := by omega
  subst ee
  have h3 : ¬ sd < sd' := fun q => v3 sd q u1 w1
  have h4 : ¬ sd' < sd := fun q => w3 sd' q u2 v1
  omega
theorem wyS_u {v v' : Int} (w : wyS V S G L c0 c l hr v) (w' : wyS V S G L c0 c l hr v') : v = v' := by
  rcases w with ⟨rfl, w1⟩ | ⟨e, sd, w1, w2, w3⟩ <;> rcases w' with ⟨rfl, y1⟩ | ⟨e', sd', y1, y2, y3⟩
  · rfl
  · obtain ⟨⟨u, p⟩, -⟩ := y2
    exact absurd p (w1 e' y1 sd' u)
  · obtain ⟨⟨u, p⟩, -⟩ := w2
    exact absurd p (y1 e w1 sd u)
  · obtain ⟨rfl, rfl⟩ := snE_u w2 y2
    rcases w3 with ⟨a1, rfl⟩ | ⟨a1, c1, l1, s1, u1, a2, a3⟩ <;> rcases y3 with ⟨b1, rfl⟩ | ⟨b1, c2, l2, s2, u2, b2, b3⟩
    · rfl
    · omega
    · omega
    · obtain ⟨rfl, rfl, rfl, rfl⟩ := Wk_u a2 b2
      exact WR_u a3 b3
end WYU
/-! way: the reference's act -/
def RfB (B : Bk) (V : Vy) (X : Bk) : Prop := sc B X ∧ MP X V ∧ X.1 mo 48 = 0
section WYR
variable {E : Ev} {B X : Bk} {V : Vy} {S G n : Nat}
theorem RfS_B {P : StP} {s : Hp} (R : RfS E B V 0 S G P X s) : RfB B V X := ⟨R.2.1, R.2.2.1, R.2.2.2.1⟩
/-- the set is one state -/
theorem m_setOne {c2 l2 s2 u2 : Nat} {u v : Int} (rm : mKd E mo) (hS : S ≤ 9) (hG : G ≤ 9) (bX : RfB B V X) (t : tOK V (c2 : Int) (l2 : Int) ((S : Int) - (s2 : Int)) ((G : Int) - (u2 : Int)) 0) : ∃ s' X', ((fX9_empties (E.1 + (mo + 21)) (St E (frW X ((c2 : Int) % 8) ((c2 : Int) / 8) (l2 : Int) ((S : Int) - (s2 : Int)) ((G : Int) - (u2 : Int)) 0 u v))).bind fun s7 => (gR s7 (E.1 + mo) 9 40).bind fun v8 => fX9_puts (E.1 + mo) v8 s7) = some s' ∧ RfS E B V 0 S G (sP c2 l2 s2 u2) X' s' := by
  obtain ⟨b1, b2, b3⟩ := bX
  have hV := b2.2.1
  have td := tOK_d hV t
  have cb := cdC_b hV t
  obtain ⟨Y, hY⟩ : ∃ Y, Y = flZ X (mo + 21) 16000 := ⟨_, rfl⟩
  have fz : flZ (frW X ((c2 : Int) % 8) ((c2 : Int) / 8) (l2 : Int) ((S : Int) - (s2 : Int)) ((G : Int) - (u2 : Int)) 0 u v) (mo + 21) 16000 = frW Y ((c2 : Int) % 8) ((c2 : Int) / 8) (l2 : Int) ((S : Int) - (s2 : Int)) ((G : Int) - (u2 : Int)) 0 u v := by rw [hY]; rfl
  have hj : hJ X (spJ Y (mo + 21) (cdC (c2 : Int) (l2 : Int) ((S : Int) - (s2 : Int)) ((G : Int) - (u2 : Int)) 0)) := by
    have h1 : hJ X Y := by rw [hY]; exact flZ_hJ
    have h2 : hJ Y (spJ Y (mo + 21) (cdC (c2 : Int) (l2 : Int) ((S : Int) - (s2 : Int)) ((G : Int) - (u2 : Int)) 0)) := spJ_hJ
    exact ⟨h2.1.trans h1.1, h2.2.1.trans h1.2.1, h2.2.2.1.trans h1.2.2.1, h2.2.2.2.1.trans h1.2.2.2.1, fun d q1 q2 => (h2.2.2.2.2 d q1 q2).trans (h1.2.2.2.2 d q1 q2)⟩
  have on0 : ∀ k : Int, 0 ≤ k → k < 1024000 → onJ Y (mo + 21) k = false := fun k k0 k1 => by
    unfold onJ
    rw [hY]
    show tb (if mo + 21 = mo + 21 ∧ 0 ≤ k / 64 ∧ k / 64 < 16000 then 0 else X.2.2.2.2 (mo + 21) (k / 64)) (k % 64).toNat = false
    rw [if_pos ⟨rfl, by omega, by omega⟩, tb_0]
  have on' : ∀ k, 0 ≤ k → k < 1024000 → (onJ (spJ Y (mo + 21) (cdC (c2 : Int) (l2 : Int) ((S : Int) - (s2 : Int)) ((G : Int) - (u2 : Int)) 0)) (mo + 21) k = true ↔ k = cdC (c2 : Int) (l2 : Int) ((S : Int) - (s2 : Int)) ((G : Int) - (u2 : Int)) 0) := fun k k0 k1 => by
    rw [spJ_on cb.1 k0, on0 k k0 k1, Bool.false_or, decide_eq_true_eq]
  refine ⟨St E (frW (spJ Y (mo + 21) (cdC (c2 : Int) (l2 : Int) ((S : Int) - (s2 : Int)) ((G : Int) - (u2 : Int)) 0)) ((c2 : Int) % 8) ((c2 : Int) / 8) (l2 : Int) ((S : Int) - (s2 : Int)) ((G : Int) - (u2 : Int)) 0 u v), spJ Y (mo + 21) (cdC (c2 : Int) (l2 : Int) ((S : Int) - (s2 : Int)) ((G : Int) - (u2 : Int)) 0), ?_, ⟨_, _, _, _, _, _, _, _, rfl⟩, sc_tr b1 (hJ_sc hj), hJ_MP hj b2, by rw [hj.1]; exact b3, fun k k0 k1 q => ?_, fun c l f g m tk => ?_, ?_⟩
  · rw [m_empties (mk21 rm), some_bind, fz, g9_40 rm.1, some_bind]
    exact m_putsF rm (mk21 rm) td
  · rw [on' k k0 k1] at q
    exact ⟨_, _, _, _, _, t, q⟩
  · have kb := cdC_b hV tk
    rw [on' _ kb.1 kb.2]
    have t3 := t.2.2.1
    have t4 := t.2.2.2.1
    constructor
    · intro e
      obtain ⟨i1, i2, i3, i4, i5⟩ := cdC_inj hV tk t e
      exact ⟨by omega, by omega, by omega, by omega, by omega, by omega, i5⟩
    · rintro ⟨f1, g1, rfl, rfl, x1, x2, rfl⟩
      rw [show (f : Int) = (S : Int) - (s2 : Int) by omega, show (g : Int) = (G : Int) - (u2 : Int) by omega]
  · rintro c l s u m ⟨rfl, rfl, rfl, rfl, rfl⟩
    have t2 := t.2.1
    have t3 := t.2.2.1
    have t4 := t.2.2.2.1
    exact ⟨t.1, by omega, by omega, by omega, by omega⟩
/-- freely from hour h + 1 to hour e -/
theorem m_freeTo {h e : Nat} {P : StP} {s : Hp} {x1 x2 x4 x5 x6 x7 x8 : Int32} (rm : mKd E mo) (hS : S ≤ 9) (hG : G ≤ 9) (hV : VOK V) (he : (e : Int) < V.1 4) (hh : h ≤ e) (R : RfS E B V 0 S G P X s) : ∃ s' X', iter (fX9_actOf_l52 (E.1 + mo) x1 x2 (iI (e : Int)) x4 x5 x6 x7 x8) FU (iI ((h : Int) + 1), s) = some s' ∧ RfS E B V 0 S G (Pt V S G U0 (h + 1) P (e + 1 - (h + 1))) X' s' := by
  have v4 := hV.2.2.2.1
  obtain ⟨z, e1, X', e2⟩ := iter_acc (F := fX9_actOf_l52 (E.1 + mo) x1 x2 (iI (e : Int)) x4 x5 x6 x7 x8) (fun j a => ∃ s' X', a = (iI (((j + (h + 1) : Nat) : Int)), s') ∧ RfS E B V 0 S G (Pt V S G U0 (h + 1) P j) X' s') (e - h) (fun s' => ∃ X', RfS E B V 0 S G (Pt V S G U0 (h + 1) P (e - h)) X' s')
    (fun j a hj ha => by
      obtain ⟨s', X', rfl, R'⟩ := ha
      obtain ⟨s2, X2, g1, g2⟩ := m_stepP (h := j + (h + 1)) rm (by omega) hS hG (by omega) R'
      rw [mkU_0] at g2
      refine ⟨(iI ((j + 1 + (h + 1) : Nat) : Int), s2), ?_, s2, X2, rfl, g2⟩
      unfold fX9_actOf_l52
      dsimp only
      rw [if_neg (by rw [iI_lt (by omega) (by omega) (by omega) (by omega)]; omega), g1, some_bind, iI_add, show ((j + (h + 1) : Nat) : Int) + 1 = ((j + 1 + (h + 1) : Nat) : Int) by omega])
    (fun a ha => by
      obtain ⟨s', X', rfl, R'⟩ := ha
      refine ⟨s', ?_, X', R'⟩
      unfold fX9_actOf_l52
      dsimp only
      rw [if_pos (by rw [iI_lt (by omega) (by omega) (by omega) (by omega)]; omega)]) (N := FU) (by show e - h < 1000000; omega) (a := (iI ((h : Int) + 1), s)) ⟨s, X, by rw [show ((0 + (h + 1) : Nat) : Int) = (h : Int) + 1 by omega], R⟩
  rw [show e + 1 - (h + 1) = e - h by omega]
  exact ⟨z, X', e1, e2⟩
end WYR
