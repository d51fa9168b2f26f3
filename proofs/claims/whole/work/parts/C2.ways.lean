/-! ways: the reference counts rows of acts -/
def smZ (F : Int → Int) : Nat → Int
  | 0 => 0
  | n + 1 => smZ F n + F (n : Int)
theorem smZ_cg {F G : Int → Int} : ∀ {n : Nat}, (∀ z : Nat, z < n → F (z : Int) = G (z : Int)) → smZ F n = smZ G n
  | 0, _ => rfl
  | n + 1, h => by
    show smZ F n + F (n : Int) = smZ G n + G (n : Int)
    rw [smZ_cg (fun z hz => h z (by omega)), h n (by omega)]
theorem smZ_up {T W : Int → Int} {k v : Int} : ∀ {n : Nat}, smZ (fun z => upI T k v z * W z) n = smZ (fun z => T z * W z) n + (if 0 ≤ k ∧ k < (n : Int) then (v - T k) * W k else 0)
  | 0 => by
    show (0 : Int) = 0 + _
    rw [if_neg (by omega)]
    rfl
  | n + 1 => by
    show smZ (fun z => upI T k v z * W z) n + upI T k v (n : Int) * W (n : Int) = smZ (fun z => T z * W z) n + T (n : Int) * W (n : Int) + _
    rw [smZ_up (n := n)]
    by_cases q : k = (n : Int)
    · subst q
      rw [if_neg (by omega), if_pos (by omega)]
      unfold upI
      rw [if_pos rfl, Int.sub_mul]
      omega
    · have u : upI T k v (n : Int) = T (n : Int) := by
        unfold upI
        rw [if_neg (show ¬ (n : Int) = k from fun w => q w.symm)]
      rw [u]
      by_cases q2 : 0 ≤ k ∧ k < (n : Int)
      · rw [if_pos q2, if_pos (by omega)]
        omega
      · rw [if_neg q2, if_neg (by omega)]
        omega
theorem lem_a {S A B N : Int} (h : S ≤ 3 * A + B) : S + N ≤ 3 * A + (B + N) := by omega
theorem smZ_le {T : Int → Int} (h : ∀ z, 0 ≤ T z) : ∀ {n : Nat} (z : Nat), z < n → 0 ≤ smZ T n ∧ T (z : Int) ≤ smZ T n
  | 0, z, hz => by omega
  | n + 1, z, hz => by
    show 0 ≤ smZ T n + T (n : Int) ∧ T (z : Int) ≤ smZ T n + T (n : Int)
    have hn := h (n : Int)
    by_cases q : z = n
    · subst q
      have : 0 ≤ smZ T z := by
        cases z with
        | zero => exact Int.le_refl _
        | succ m => exact (smZ_le h (n := m + 1) m (by omega)).1
      omega
    · have := smZ_le h (n := n) z (by omega)
      omega
theorem smZ_nn {T : Int → Int} (h : ∀ z, 0 ≤ T z) (n : Nat) : 0 ≤ smZ T n := by
  cases n with
  | zero => exact Int.le_refl _
  | succ m => exact (smZ_le h (n := m + 1) m (by omega)).1
theorem smZ_mono {T : Int → Int} (h : ∀ z, 0 ≤ T z) : ∀ {m n : Nat}, m ≤ n → smZ T m ≤ smZ T n
  | m, 0, hm => by
    have : m = 0 := by omega
    subst this
    exact Int.le_refl _
  | m, n + 1, hm => by
    by_cases q : m = n + 1
    · subst q
      exact Int.le_refl _
    · show smZ T m ≤ smZ T n + T (n : Int)
      have := smZ_mono h (m := m) (n := n) (by omega)
      have := h (n : Int)
      omega
theorem smZ_one {T : Int → Int} (n : Nat) : smZ (fun z => T z * 1) n = smZ T n := smZ_cg (fun z _ => Int.mul_one _)
/-- rows of acts from a state on, through so many hours -/
def Fw (V : Vy) : Nat → Int → Int → Int → Int → Int
  | 0, _, _, _, _ => 1
  | r + 1, h, l, f, g => (if okA V 0 l f g then Fw V r (h + 1) (clA V h (lvA 0 l)) (fsA 0 f) (gsA 0 g) else 0) + (if okA V 1 l f g then Fw V r (h + 1) (clA V h (lvA 1 l)) (fsA 1 f) (gsA 1 g) else 0) + (if okA V 2 l f g then Fw V r (h + 1) (clA V h (lvA 2 l)) (fsA 2 f) (gsA 2 g) else 0)
def Wd (V : Vy) (r : Nat) (h z : Int) : Int := Fw V r h (z / 100 % 5) (z / 10 % 10) (z % 10)
section WAY
variable {E : Ev} {B C X : Bk} {V : Vy} {N T : Int → Int}
theorem Wd_s {c l f g : Int} {r : Nat} {h : Int} (hV : VOK V) (t : tOK V c l f g 0) : Wd V r h (sC c l f g) = Fw V r h l f g := by
  have v3 := hV.2.2.1
  obtain ⟨⟨c0, c1, c2⟩, t2, t3, t4, t5⟩ := t
  unfold Wd
  obtain ⟨n2, hn2⟩ : ∃ n2, n2 = (c % 8 * 8 + c / 8) * 5 + l := ⟨_, rfl⟩
  have e : sC c l f g = (n2 * 10 + f) * 10 + g := by unfold sC; rw [hn2]
  rw [e, show ((n2 * 10 + f) * 10 + g) / 100 % 5 = l by omega, show ((n2 * 10 + f) * 10 + g) / 10 % 10 = f by omega, show ((n2 * 10 + f) * 10 + g) % 10 = g by omega]
/-- what a state gives to act b, by its number -/
def ptW (V : Vy) (r : Nat) (h : Int) (b z : Int) : Int := if okA V b (z / 100 % 5) (z / 10 % 10) (z % 10) then Fw V r (h + 1) (clA V h (lvA b (z / 100 % 5))) (fsA b (z / 10 % 10)) (gsA b (z % 10)) else 0
def ptS (V : Vy) (r : Nat) (h z : Int) : Nat → Int
  | 0 => 0
  | a + 1 => ptS V r h z a + ptW V r h (a : Int) z
theorem ptS_3 {r : Nat} {h z : Int} : ptS V r h z 3 = Wd V (r + 1) h z := by
  show 0 + ptW V r h ((0 : Nat) : Int) z + ptW V r h ((1 : Nat) : Int) z + ptW V r h ((2 : Nat) : Int) z = _
  rw [Int.zero_add]
  rfl
def cnI (V : Vy) (r : Nat) (h : Int) (N : Int → Int) (j a : Nat) (T : Int → Int) : Prop := a ≤ 3 ∧ (∀ z, 0 ≤ T z) ∧ smZ (fun z => T z * Wd V r (h + 1) z) 32000 = smZ (fun z => N z * Wd V (r + 1) h z) j + N (j : Int) * ptS V r h (j : Int) a ∧ smZ T 32000 ≤ 3 * smZ N j + (a : Int) * N (j : Int) ∧ ∀ z, 0 ≤ z → z < 32000 → ¬ T z = 0 → ∃ c l f g, tOK V c l f g 0 ∧ z = sC c l f g
theorem cn_RInv {r : Nat} {h : Int} (hV : VOK V) (nn : ∀ z, 0 ≤ N z) (bN : smZ N 32000 ≤ 282429536481) : RInv V 0 h 0 N (cnI V r h N) := by
  refine ⟨⟨by omega, fun _ => Int.le_refl _, ?_, ?_, fun z _ _ w => absurd rfl w⟩, fun j a T hj iv z z0 z1 => ?_, fun j a T c l f g ha hj tk ek _ iv => ?_, fun j T hj _ iv => ?_, fun j T hj e iv => ?_⟩
  · show smZ (fun z => 0 * Wd V r (h + 1) z) 32000 = 0 + N ((0 : Nat) : Int) * 0
    rw [smZ_cg (G := fun _ => 0 * 1) (fun z _ => by rw [Int.zero_mul, Int.zero_mul]), smZ_one, Int.mul_zero]
    have : ∀ n, smZ (fun _ => 0) n = 0 := fun n => by
      induction n with
      | zero => rfl
      | succ n ih => show smZ (fun _ => 0) n + 0 = 0; rw [ih]; rfl
    rw [this]
    rfl
  · have : ∀ n, smZ (fun _ => 0) n = 0 := fun n => by
      induction n with
      | zero => rfl
      | succ n ih => show smZ (fun _ => 0) n + 0 = 0; rw [ih]; rfl
    rw [this]
    show (0 : Int) ≤ 3 * 0 + ((0 : Nat) : Int) * N ((0 : Nat) : Int)
    rw [show ((0 : Nat) : Int) * N ((0 : Nat) : Int) = 0 from Int.zero_mul _]
    omega
  · obtain ⟨qa, i1, i2, i3, i4⟩ := iv
    obtain ⟨zn, rfl⟩ : ∃ zn : Nat, z = (zn : Int) := ⟨z.toNat, by omega⟩
    have b1 := smZ_le i1 (n := 32000) zn (by omega)
    have b2 := smZ_mono nn (m := j) (n := 32000) (by omega)
    have b3 := smZ_le nn (n := 32000) j hj
    have b4 := i1 (zn : Int)
    have : (a : Int) * N (j : Int) ≤ 3 * N (j : Int) := Int.mul_le_mul_of_nonneg_right (by omega) (nn _)
    omega
  · obtain ⟨qa, i1, i2, i3, i4⟩ := iv
    have hz : ∀ b, ptW V r h b (j : Int) = if okA V b l f g then Fw V r (h + 1) (clA V h (lvA b l)) (fsA b f) (gsA b g) else 0 := fun b => by
      have v3 := hV.2.2.1
      obtain ⟨⟨c0, c1, c2⟩, t2, t3, t4, t5⟩ := tk
      unfold ptW
      obtain ⟨n2, hn2⟩ : ∃ n2, n2 = (c % 8 * 8 + c / 8) * 5 + l := ⟨_, rfl⟩
      have e : (j : Int) = (n2 * 10 + f) * 10 + g := by rw [ek]; unfold sC; rw [hn2]
      rw [e, show ((n2 * 10 + f) * 10 + g) / 100 % 5 = l by omega, show ((n2 * 10 + f) * 10 + g) / 10 % 10 = f by omega, show ((n2 * 10 + f) * 10 + g) % 10 = g by omega]
    have ps : ptS V r h (j : Int) (a + 1) = ptS V r h (j : Int) a + ptW V r h (a : Int) (j : Int) := rfl
    have aN : ((a + 1 : Nat) : Int) * N (j : Int) = (a : Int) * N (j : Int) + N (j : Int) := by rw [show ((a + 1 : Nat) : Int) = (a : Int) + 1 by omega, Int.add_mul, Int.one_mul]
    have nj := nn (j : Int)
    unfold stA
    by_cases q : okA V (a : Int) l f g
    · rw [if_pos q]
      have tn := tOK_n (cnt := 0) (h := h) hV tk q
      have tn0 : tOK V (ccA V (a : Int) h c l) (clA V h (lvA (a : Int) l)) (fsA (a : Int) f) (gsA (a : Int) g) 0 := ⟨tn.1, tn.2.1, tn.2.2.1, tn.2.2.2.1, by omega⟩
      have kb : 0 ≤ tK V h (a : Int) c l f g ∧ tK V h (a : Int) c l f g < 32000 := sC_b hV tn0
      have wk : Wd V r (h + 1) (tK V h (a : Int) c l f g) = Fw V r (h + 1) (clA V h (lvA (a : Int) l)) (fsA (a : Int) f) (gsA (a : Int) g) := Wd_s hV tn0
      obtain ⟨K, hK⟩ : ∃ K, K = tK V h (a : Int) c l f g := ⟨_, rfl⟩
      have tk0 := i1 K
      have mx : max (T K) (vlR V 0 h N T (a : Int) c l f g) = T K + N (j : Int) := by
        unfold vlR
        rw [if_pos rfl, ← hK, ← ek]
        omega
      rw [← hK] at kb wk ⊢
      rw [mx]
      refine ⟨by omega, fun z => ?_, ?_, ?_, fun z z0 z1 nz => ?_⟩
      · unfold upI
        split
        · omega
        · exact i1 z
      · rw [smZ_up, i2, if_pos ⟨kb.1, by omega⟩, wk, ps, hz, if_pos q, Int.mul_add, show T K + N (j : Int) - T K = N (j : Int) by omega]
        omega
      · have := smZ_up (T := T) (W := fun _ => 1) (k := K) (v := T K + N (j : Int)) (n := 32000)
        rw [smZ_one, smZ_one, if_pos ⟨kb.1, by omega⟩, Int.mul_one] at this
        rw [this, aN, show T K + N (j : Int) - T K = N (j : Int) by omega]
        exact lem_a i3
      · unfold upI at nz
        by_cases e : z = K
        · exact ⟨_, _, _, _, tn0, by rw [e, hK]; rfl⟩
        · rw [if_neg e] at nz
          exact i4 z z0 z1 nz
    · rw [if_neg q]
      refine ⟨by omega, i1, ?_, ?_, i4⟩
      · rw [i2, ps, hz, if_neg q, Int.add_zero]
      · rw [aN]
        omega
  · obtain ⟨qa, i1, i2, i3, i4⟩ := iv
    refine ⟨by omega, i1, ?_, ?_, i4⟩
    · show _ = smZ (fun z => N z * Wd V (r + 1) h z) j + N (j : Int) * Wd V (r + 1) h (j : Int) + N ((j + 1 : Nat) : Int) * 0
      rw [i2, ptS_3, Int.mul_zero, Int.add_zero]
    · show _ ≤ 3 * (smZ N j + N (j : Int)) + ((0 : Nat) : Int) * N ((j + 1 : Nat) : Int)
      rw [show ((0 : Nat) : Int) * N ((j + 1 : Nat) : Int) = 0 from Int.zero_mul _]
      omega
  · obtain ⟨qa, i1, i2, i3, i4⟩ := iv
    refine ⟨by omega, i1, ?_, ?_, i4⟩
    · show _ = smZ (fun z => N z * Wd V (r + 1) h z) j + N (j : Int) * Wd V (r + 1) h (j : Int) + N ((j + 1 : Nat) : Int) * 0
      rw [i2, e, Int.zero_mul, Int.zero_mul, Int.mul_zero, Int.add_zero, Int.add_zero]
    · show _ ≤ 3 * (smZ N j + N (j : Int)) + ((0 : Nat) : Int) * N ((j + 1 : Nat) : Int)
      rw [show ((0 : Nat) : Int) * N ((j + 1 : Nat) : Int) = 0 from Int.zero_mul _]
      rw [show ((0 : Nat) : Int) * N (j : Int) = 0 from Int.zero_mul _] at i3
      have := nn (j : Int)
      omega
end WAY
