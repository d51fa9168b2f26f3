/-! the free shop set down at its start; the most sand left at a spot -/
section BG
variable {E : Ev} {B : Bk} {V : Vy} {x y l f g m u v z : Int}
theorem frW_wO {j : Nat} (h : ¬ (42 ≤ j ∧ j ≤ 47) ∧ j ≠ 26 ∧ j ≠ 27) : wI (frW B x y l f g m u v) mo j z = frW (wI B mo j z) x y l f g m u v := by
  obtain ⟨h1, h2, h3⟩ := h
  refine Prod.ext ?_ rfl
  funext e i
  show (if e = mo ∧ i = j then z else if e = mo then frF x y l f g m u v i (B.1 e i) else B.1 e i) = (if e = mo then frF x y l f g m u v i (if e = mo ∧ i = j then z else B.1 e i) else if e = mo ∧ i = j then z else B.1 e i)
  by_cases q : e = mo
  · rw [if_pos q]
    by_cases qj : i = j
    · rw [if_pos ⟨q, qj⟩, if_pos q]
      unfold frF
      rw [if_neg (by omega), if_neg (by omega), if_neg (by omega), if_neg (by omega), if_neg (by omega), if_neg (by omega), if_neg (by omega), if_neg (by omega), if_pos ⟨q, qj⟩]
    · rw [if_neg (fun y => qj y.2), if_pos q, if_neg (fun y => qj y.2)]
  · rw [if_neg (fun y => q y.1), if_neg q, if_neg q, if_neg (fun y => q y.1)]
theorem w48_MV {c : Int} (h : MV B V) : MV (wI B mo 48 c) V := by
  have e : ∀ j : Nat, j ≠ 48 → (wI B mo 48 c).1 mo j = B.1 mo j := fun j hj => by rw [wI_1, if_neg (fun w => hj w.2)]
  unfold MV at *
  rw [e 33 (by omega), e 34 (by omega), e 35 (by omega), e 36 (by omega), e 37 (by omega), e 38 (by omega)]
  exact h
/-- the base that starts leaves, but for the one bit -/
def bsD (B : Bk) (cnt : Nat) : Bk := wI (flZ (plnM B) (mo + 21) 16000) mo 48 (cnt : Int)
theorem bsD_MP {cnt : Nat} (P : MP (plnM B) V) : MP (bsD B cnt) V := by
  refine ⟨w48_MV (jMV rfl rfl P.1), P.2.1, ?_, P.2.2.2⟩
  unfold bsD
  rw [wI_1, if_neg (by omega)]
  exact P.2.2.1
theorem flZ_hJ {B : Bk} : hJ B (flZ B (mo + 21) 16000) := by
  refine ⟨rfl, rfl, rfl, rfl, fun d h1 h2 => ?_⟩
  funext z
  show (if d = mo + 21 ∧ 0 ≤ z ∧ z < 16000 then 0 else B.2.2.2.2 d z) = B.2.2.2.2 d z
  rw [if_neg (fun w => h1 w.1)]
theorem spJ_hJ {B : Bk} {c : Int} : hJ B (spJ B (mo + 21) c) := by
  refine ⟨rfl, rfl, rfl, rfl, fun d h1 h2 => ?_⟩
  funext z
  unfold spJ
  rw [wJ_5, if_neg (fun w => h1 w.1)]
theorem bsD_sc {cnt : Nat} : sc B (bsD B cnt) := sc_tr plnM_sc (sc_tr (hJ_sc flZ_hJ) (sc_I (by unfold msv; omega)))
theorem bsD_on {cnt : Nat} {k : Int} (k0 : 0 ≤ k) (k1 : k < 1024000) : onJ (bsD B cnt) (mo + 21) k = false := by
  unfold onJ
  have : (bsD B cnt).2.2.2.2 (mo + 21) (k / 64) = 0 := by
    show (if mo + 21 = mo + 21 ∧ 0 ≤ k / 64 ∧ k / 64 < 16000 then 0 else (plnM B).2.2.2.2 (mo + 21) (k / 64)) = 0
    rw [if_pos ⟨rfl, by omega, by omega⟩]
  rw [this, tb_0]
def mnI (a b : Int) : Int := if a ≤ b then a else b
/-- the column of a shop's start -/
def scV (V : Vy) (i : Int) : Int := V.2.2.1 i 1 * 8 + V.2.2.1 i 0
/-- the number of a shop's first state, with at most t of sand -/
def bgC (V : Vy) (cnt : Nat) (i t : Int) : Int := cdC (scV V i) (V.2.2.1 i 2) (mnI t (V.2.2.1 i 3)) (V.2.2.1 i 4) (mkD V cnt (scV V i) (V.2.2.1 i 2) 0)
theorem bgC_ok {cnt : Nat} {i t : Int} (hV : VOK V) (i0 : 0 ≤ i ∧ i < V.1 8) (t0 : 0 ≤ t ∧ t ≤ 9) (s9 : V.2.2.1 i 4 ≤ 9) : tOK V (scV V i) (V.2.2.1 i 2) (mnI t (V.2.2.1 i 3)) (V.2.2.1 i 4) (mkD V cnt (scV V i) (V.2.2.1 i 2) 0) := by
  obtain ⟨a1, a2, a3, a4, a5, a6⟩ := hV.2.2.2.2.2.2.2.2.2.2.1 i i0.1 i0.2
  have v1 := hV.1
  have v2 := hV.2.1
  refine ⟨?_, a3, ?_, ⟨a5.1, s9⟩, mkD_b hV (by omega)⟩
  · unfold scV
    exact ⟨by omega, by omega, by omega⟩
  · unfold mnI
    split <;> omega
end BG
