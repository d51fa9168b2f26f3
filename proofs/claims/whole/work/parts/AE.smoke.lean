/-! smoke, kites -/
def al_ (ok : Nat → Nat → Bool) (l : Nat) : Nat → Bool
  | 0 => true
  | g + 1 => al_ ok l g && ok g l
theorem al_f {ok : Nat → Nat → Bool} {l : Nat} : ∀ (k g : Nat), al_ ok l g = false → al_ ok l (g + k) = false := by
  intro k
  induction k with
  | zero => intro g h; exact h
  | succ k ih =>
    intro g h
    show (al_ ok l (g + k) && ok (g + k) l) = false
    rw [ih g h]
    rfl
/-- a loop over layers that takes bits away -/
theorem off_lp {σ : Type} {F : (Int32 × Int32 × σ) → Option ((Int32 × Int32 × σ) ⊕ (Int32 × σ))} {s : σ} {n : Nat} (hn : n ≤ 5) (c : Nat → Bool) (hs : ∀ (j : Nat) (x : Int32), j < n → F (x, iI j, s) = some (.inl (if c j then x else x &&& (ish (iI 1) (iI j) ^^^ iI (-1)), iI ((j : Int) + 1), s))) (hx : ∀ x, F (x, iI n, s) = some (.inr (x, s))) (b : Nat → Bool) : iter F FU (mkL b n, iI 0, s) = some (mkL (fun l => b l && c l) n, s) := by
  have key := iter_fo (F := F) (fun j x => (x, iI j, s)) (fun j x => if c j.toNat then x else x &&& (ish (iI 1) (iI j) ^^^ iI (-1))) (mkL b n) n (mkL (fun l => b l && c l) n, s) (fun j x => x = mkL (fun l => b l && (if l < j then c l else true)) n) (by
    refine (mkL_c n (fun l _ => ?_)).symm
    rw [if_neg (by omega), Bool.and_true]) (fun j x hj hx => by
    subst hx
    simp only [Int.toNat_natCast]
    by_cases q : c j = true
    · rw [if_pos q]
      refine mkL_c n (fun l _ => ?_)
      by_cases e : l = j
      · subst e
        rw [if_neg (by omega), if_pos (by omega), q]
      · by_cases e2 : l < j
        · rw [if_pos e2, if_pos (by omega)]
        · rw [if_neg e2, if_neg (by omega)]
    · rw [if_neg q, mkL_off n j hn hj]
      refine mkL_c n (fun l _ => ?_)
      by_cases e : l = j
      · subst e
        simp only [Bool.not_eq_true] at q
        rw [if_pos (show l < l + 1 by omega), q]
        simp
      · by_cases e2 : l < j
        · rw [if_pos e2, if_pos (by omega)]
          simp [e]
        · rw [if_neg e2, if_neg (by omega)]
          simp [e]) (fun j x hj _ => by
    rw [hs j x hj]
    simp only [Int.toNat_natCast]) (by
    have e := fo_inv (g := fun j x => if c (Int.toNat j) then x else x &&& (ish (iI 1) (iI j) ^^^ iI (-1))) (a := mkL b n) (fun j x => x = mkL (fun l => b l && (if l < j then c l else true)) n) (by
      refine (mkL_c n (fun l _ => ?_)).symm
      rw [if_neg (by omega), Bool.and_true]) n (fun j x hj hx => by
      subst hx
      simp only [Int.toNat_natCast]
      by_cases q : c j = true
      · rw [if_pos q]
        refine mkL_c n (fun l _ => ?_)
        by_cases e : l = j
        · subst e
          rw [if_neg (by omega), if_pos (by omega), q]
        · by_cases e2 : l < j
          · rw [if_pos e2, if_pos (by omega)]
          · rw [if_neg e2, if_neg (by omega)]
      · rw [if_neg q, mkL_off n j hn hj]
        refine mkL_c n (fun l _ => ?_)
        by_cases e : l = j
        · subst e
          simp only [Bool.not_eq_true] at q
          rw [if_pos (show l < l + 1 by omega), q]
          simp
        · by_cases e2 : l < j
          · rw [if_pos e2, if_pos (by omega)]
            simp [e]
          · rw [if_neg e2, if_neg (by omega)]
            simp [e])
    rw [e, hx]
    congr 3
    refine mkL_c n (fun l hl => ?_)
    rw [if_pos hl]) (N := FU) (by have := FU_big (n := (n : Int)) (by omega); omega)
  exact key
/-- a loop over groups -/
theorem grp_lp {σ : Type} {F : (Int32 × Int32 × σ) → Option ((Int32 × Int32 × σ) ⊕ (Int32 × σ))} {s : σ} {n G : Nat} {k : Int} (hG : G ≤ 60) (ok : Nat → Nat → Bool) (hs : ∀ (g : Nat) (b : Nat → Bool), g < G → F (mkL b n, iI (k * g), s) = some (.inl (mkL (fun l => b l && ok g l) n, iI (k * ((g : Int) + 1)), s))) (hx : ∀ x, F (x, iI (k * G), s) = some (.inr (x, s))) : iter F FU (mkL (fun _ => true) n, iI 0, s) = some (mkL (fun l => al_ ok l G) n, s) := by
  have key := iter_for (F := F) (fun g => (mkL (fun l => al_ ok l g.toNat) n, iI (k * g), s)) 0 G (mkL (fun l => al_ ok l G) n, s) (fun g g0 g1 => by
    have h := hs g.toNat (fun l => al_ ok l g.toNat) (by omega)
    rw [show ((g.toNat : Nat) : Int) = g by omega] at h
    rw [h, show (g + 1).toNat = g.toNat + 1 by omega]
    rfl) (by
    rw [Int.toNat_natCast]
    exact hx _) (by omega) (N := FU) (by have := FU_big (n := (G : Int)) (by omega); omega)
  rw [Int.mul_zero] at key
  exact key
section SM
variable {E : Ev} {B : Bk} {n : Nat}
theorem m_layers {z m k : Int} {G : Nat} {p0 q0 : Int} (R : RV E B n) (hn : n < 50) (M : MR B z m) (kk : 1 ≤ k ∧ k ≤ 5) (hG : k * G = m) (ok : Nat → Nat → Bool) (hso : ∀ (g l : Nat) (p q : Int), g < G → (l : Int) < B.1 n 3 → ∃ p' q', fX9_isSo (E.1 + mo) (iI (60 * z + k * g)) (iI k) (iI l) (St E (tB B p q)) = some (iI (if ok g l then 1 else 0), St E (tB B p' q'))) : ∃ p q, iter (fX9_layersBy_l19 (E.1 + mo) (iI z) (iI k)) FU (iI 0, iI 0, St E (tB B p0 q0)) = some (mkL (fun l => al_ ok l G) (B.1 n 3).toNat, St E (tB B p q)) := by
  have R1 := R
  obtain ⟨⟨rc, rn, rk, rm⟩, rw1, -⟩ := R
  have w3 := rw1.2.2.2.1
  obtain ⟨z1, w1, m1, m2⟩ := M
  have i1 : ¬ iI 1 = 0 := by decide
  have inner : ∀ (l : Nat) (p q : Int) (x4 : Int32), (l : Int) < B.1 n 3 → ∃ p' q', iter (fX9_layersBy_l36 (E.1 + mo) (iI z) (iI k) x4 (iI l)) FU (iI 1, iI 0, St E (tB B p q)) = some (iI (if al_ ok l G then 1 else 0), St E (tB B p' q')) := fun l p q x4 hl => by
    obtain ⟨r, f1, f2⟩ := iter_m (F := fX9_layersBy_l36 (E.1 + mo) (iI z) (iI k) x4 (iI l)) (fun a => ∃ (g : Nat) (p q : Int), g ≤ G ∧ a = (iI (if al_ ok l g then 1 else 0), iI (k * g), St E (tB B p q))) (fun a => G - (a.2.1.toInt / k).toNat) (fun r => ∃ p' q', r = (iI (if al_ ok l G then 1 else 0), St E (tB B p' q')))
      (fun a ha => by
        obtain ⟨g, p, q, hg, rfl⟩ := ha
        have kb : 0 ≤ k * (g : Int) := Int.mul_nonneg (by omega) (by omega)
        have kG : k * (g : Int) ≤ k * (G : Int) := Int.mul_le_mul_of_nonneg_left (by omega) (by omega)
        have mu : ((iI (k * (g : Int))).toInt / k).toNat = g := by
          rw [iI_toInt (by omega) (by omega), Int.mul_ediv_cancel_left _ (by omega)]
          omega
        simp (disch := omega) only [fX9_layersBy_l36, g9_2 rm.1, some_bind, aI_ok (mk2 rm), tB_2, m1, iI_le, iI_mul, iI_add]
        by_cases c : g = G
        · refine Or.inr ⟨_, by rw [if_pos (by rw [c]; omega)], p, q, by rw [c]⟩
        · have kG' : k * (g : Int) + k ≤ k * (G : Int) := by
            have := Int.mul_le_mul_of_nonneg_left (show (g : Int) + 1 ≤ G by omega) (show 0 ≤ k by omega)
            rw [Int.mul_add, Int.mul_one] at this
            exact this
          by_cases ca : al_ ok l g = true
          · obtain ⟨p', q', e⟩ := hso g l p q (by omega) hl
            refine Or.inl ⟨(iI (if ok g l then 1 else 0), iI (k * (g : Int) + k), St E (tB B p' q')), ?_, ⟨g + 1, p', q', by omega, ?_⟩, ?_⟩
            · rw [if_neg (by omega), ca, if_pos rfl, if_neg i1, e]
              rfl
            · show _ = (iI (if (al_ ok l g && ok g l) then 1 else 0), iI (k * ((g + 1 : Nat) : Int)), St E (tB B p' q'))
              rw [ca, Bool.true_and, show k * ((g + 1 : Nat) : Int) = k * (g : Int) + k by rw [Int.natCast_add, Int.mul_add]; simp]
            · have mu2 : ((iI (k * (g : Int) + k)).toInt / k).toNat = g + 1 := by
                rw [show k * (g : Int) + k = k * ((g : Int) + 1) by rw [Int.mul_add, Int.mul_one], iI_toInt (by rw [Int.mul_add, Int.mul_one]; omega) (by rw [Int.mul_add, Int.mul_one]; omega), Int.mul_ediv_cancel_left _ (by omega)]
                omega
              show G - ((iI (k * (g : Int) + k)).toInt / k).toNat < G - ((iI (k * (g : Int))).toInt / k).toNat
              rw [mu, mu2]
              omega
          · simp only [Bool.not_eq_true] at ca
            refine Or.inr ⟨(iI (if al_ ok l g then 1 else 0), St E (tB B p q)), ?_, p, q, ?_⟩
            · rw [if_neg (by omega), ca]
              rfl
            · have := al_f (G - g) g ca
              rw [show g + (G - g) = G by omega] at this
              rw [ca, this]) FU (iI 1, iI 0, St E (tB B p q)) ⟨0, p, q, by omega, by rw [show k * ((0 : Nat) : Int) = 0 by simp]; rfl⟩ (by
        have : G ≤ 60 := by
          have := Int.mul_le_mul_of_nonneg_right (show 1 ≤ k by omega) (show 0 ≤ (G : Int) by omega)
          omega
        show G - _ < 1000000
        omega)
    obtain ⟨p', q', rfl⟩ := f2
    exact ⟨p', q', f1⟩
  obtain ⟨r, f1, f2⟩ := iter_acc (F := fX9_layersBy_l19 (E.1 + mo) (iI z) (iI k)) (fun l a => ∃ p q, a = (mkL (fun l => al_ ok l G) l, iI (l : Int), St E (tB B p q))) (B.1 n 3).toNat (fun r => ∃ p q, r = (mkL (fun l => al_ ok l G) (B.1 n 3).toNat, St E (tB B p q)))
    (fun l a hl ha => by
      obtain ⟨p, q, rfl⟩ := ha
      obtain ⟨p', q', e⟩ := inner l p q (mkL (fun l => al_ ok l G) l) (by omega)
      refine ⟨(mkL (fun l => al_ ok l G) (l + 1), iI ((l + 1 : Nat) : Int), St E (tB B p' q')), ?_, p', q', rfl⟩
      simp (disch := omega) only [fX9_layersBy_l19, g9_17 rm.1, some_bind, aI_ok (mk7 rm), tB_2, vr_h2 R1, iI_le, e, fX9_layersBy_b77, fX9_layersBy_b92, lt_, iI_add]
      rw [if_neg (by omega), mkL_s]
      by_cases c : al_ ok l G = true
      · rw [c, if_pos rfl, if_neg i1]
        rfl
      · simp only [Bool.not_eq_true] at c
        rw [c]
        rfl)
    (fun a ha => by
      obtain ⟨p, q, rfl⟩ := ha
      refine ⟨_, ?_, p, q, rfl⟩
      simp (disch := omega) only [fX9_layersBy_l19, g9_17 rm.1, some_bind, aI_ok (mk7 rm), tB_2, vr_h2 R1, iI_le]
      rw [if_pos (by omega)]) (N := FU) (by have := FU_big (n := B.1 n 3) (by omega); omega) (a := (iI 0, iI 0, St E (tB B p0 q0))) ⟨p0, q0, rfl⟩
  obtain ⟨p, q, rfl⟩ := f2
  exact ⟨p, q, f1⟩
end SM
