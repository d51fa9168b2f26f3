/-! what was read becomes the valley of both -/
section FN
variable {m : Nat} {B2 C R : Bk}
theorem lr_fin (H : LR m C R) (F1 : ∀ j, B2.1 m j = C.1 m j) (F21 : ∀ l h : Int, 0 ≤ l → l < 5 → 0 ≤ h → h < 24 → B2.2.2.2.1 (m + 1) (l * 24 + h) = pwF (C.2.2.2.1 (m + 1)) l (h.toNat + 1)) (F22 : ∀ z, B2.2.2.2.1 (m + 2) z = C.2.2.2.1 (m + 2) z) (F23 : ∀ z, B2.2.2.2.1 (m + 3) z = C.2.2.2.1 (m + 3) z) (F24 : ∀ z, B2.2.2.2.1 (m + 4) z = C.2.2.2.1 (m + 4) z) (G6 : B2.2.2.2.1 (mo + 6) 0 = R.2.2.2.1 (mo + 6) 4) (G7 : ∀ k : Int, 0 ≤ k → k < 15 → B2.2.2.2.1 (mo + 7) k = R.2.2.2.1 (mo + 7) (60 + k)) (G8 : ∀ z : Int, 0 ≤ z → z < 120 → B2.2.2.2.1 (mo + 8) z = R.2.2.2.1 (mo + 8) (480 + z)) (G10 : ∀ z : Int, 0 ≤ z → z < 24 → B2.2.2.2.1 (mo + 10) z = R.2.2.2.1 (mo + 10) (96 + z)) (G11 : ∀ z : Int, 0 ≤ z → z < 15 → B2.2.2.2.1 (mo + 11) z = R.2.2.2.1 (mo + 11) (60 + z)) (G12 : ∀ z : Int, 0 ≤ z → z < 96 → B2.2.2.2.1 (mo + 12) z = R.2.2.2.1 (mo + 12) (384 + z)) : VW B2 m ∧ VR B2 m 0 ∧ VB B2 m := by
  obtain ⟨Hn, Hw, Hs, Hd, Hp, Hf⟩ := H
  obtain ⟨vw, ⟨w8, w20⟩, h6, ⟨h60, h61, h62, h63, h64, h65, h66, h67, h68⟩, ⟨h13, h74⟩, hpos, hzero⟩ := Hn
  have vw' := vw
  obtain ⟨v0, v1, v2, v3, v4, v5, v6, v7, v8, v9⟩ := vw'
  have Q : ∀ l h : Int, 0 ≤ l → l < C.1 m 3 → 0 ≤ h → h < C.1 m 4 → B2.2.2.2.1 (mo + 8) (120 * 0 + (24 * l + h)) = B2.2.2.2.1 (m + 1) (l * 24 + h) ∧ 0 ≤ B2.2.2.2.1 (m + 1) (l * 24 + h) ∧ B2.2.2.2.1 (m + 1) (l * 24 + h) < 5 := fun l h l0 l1 h0 h1 => by
    have e1 := F21 l h l0 (by omega) h0 (by omega)
    have e2 := G8 (24 * l + h) (by omega) (by omega)
    have e3 := lrw_sp Hw l0 (by omega) h0 (by omega)
    have b := pwF_b (c := C.2.2.2.1 (m + 1)) (l := l) (fun k hk => (Hw l k l0 (by omega) (by omega) (by omega)).1) (h.toNat + 1) (by omega)
    rw [show 120 * 0 + (24 * l + h) = 24 * l + h by omega, e1, e2, e3]
    rw [e3] at b
    exact ⟨rfl, by omega, by omega⟩
  refine ⟨?_, ?_, ?_⟩
  · unfold VW at *
    simp only [F1]
    exact vw
  · unfold VR
    simp only [F1, F22, F23, F24]
    refine ⟨G6.trans h6, fun k hk => ?_, ?_, fun l h a1 a2 a3 a4 => (Q l h a1 a2 a3 a4).1, fun s k a1 a2 a3 a4 => ?_, fun s k a1 a2 a3 a4 => ?_, fun s k a1 a2 a3 a4 => ?_, fun i k a1 a2 a3 a4 => by omega, ?_⟩
    · rw [show 15 * 0 + (k : Int) = (k : Int) by omega, G7 k (by omega) (by omega)]
      rcases (show k = 0 ∨ k = 1 ∨ k = 2 ∨ k = 3 ∨ k = 4 ∨ k = 5 ∨ k = 6 ∨ k = 7 ∨ k = 8 by omega) with rfl | rfl | rfl | rfl | rfl | rfl | rfl | rfl | rfl
      · exact h60
      · exact h61
      · exact h62
      · exact h63
      · exact h64
      · exact h65
      · exact h66
      · exact h67
      · exact h68
    · rw [show (15 : Int) * 0 + 14 = 14 by omega, G7 14 (by omega) (by omega), h13]
      exact h74
    · rw [show 24 * 0 + (6 * s + k) = 6 * s + k by omega, G10 (6 * s + k) (by omega) (by omega)]
      exact (Hs s a1 a2).1 k a3 a4
    · rw [show 15 * 0 + (3 * s + k) = 3 * s + k by omega, G11 (3 * s + k) (by omega) (by omega)]
      exact (Hd s a1 a2).1 k a3 a4
    · rw [show 96 * 0 + (24 * s + k) = 24 * s + k by omega, G12 (24 * s + k) (by omega) (by omega)]
      exact ((Hp s k a1 (by omega) a3 (by omega)).2 a2).1
    · have g9 : B2.2.2.2.1 (mo + 7) (15 * 0 + 9) = R.2.2.2.1 (mo + 7) 69 := G7 9 (by omega) (by omega)
      have g10 : B2.2.2.2.1 (mo + 7) (15 * 0 + 10) = R.2.2.2.1 (mo + 7) 70 := G7 10 (by omega) (by omega)
      have g11 : B2.2.2.2.1 (mo + 7) (15 * 0 + 11) = R.2.2.2.1 (mo + 7) 71 := G7 11 (by omega) (by omega)
      have g12 : B2.2.2.2.1 (mo + 7) (15 * 0 + 12) = R.2.2.2.1 (mo + 7) 72 := G7 12 (by omega) (by omega)
      have g13 : B2.2.2.2.1 (mo + 7) (15 * 0 + 13) = R.2.2.2.1 (mo + 7) 73 := G7 13 (by omega) (by omega)
      rw [g9, g10, g11, g12, g13]
      unfold LRf at Hf
      omega
  · unfold VB
    simp only [F1, F22, F23, F24]
    refine ⟨by omega, hpos, by omega, fun l h a1 a2 a3 a4 => (Q l h a1 a2 a3 a4).2, fun s a1 a2 => (Hs s a1 a2).2, fun s a1 a2 => (Hd s a1 a2).2, fun s k a1 a2 a3 a4 => ((Hp s k a1 (by omega) a3 (by omega)).2 a2).2, fun i a1 a2 => by omega, ?_⟩
    unfold LRf at Hf
    rcases Hf with ⟨f1, f2⟩ | ⟨f1, f2, f3, f4, f5, f6, f7, f8, f9⟩
    · exact Or.inl f1
    · exact Or.inr ⟨⟨R.2.2.2.1 (mo + 7) 70, R.2.2.2.1 (mo + 7) 71, f2, f5.1, f5.2, f6.1, f6.2⟩, f7, f8, f9⟩
/-- both begin alike -/
theorem lr_0 {B X : Bk} (hm : 20 ≤ m) : LR m (wI (clV B m) (co + 2) 8 0) (clM X) := by
  have hco : co = 0 := rfl
  have hmo : mo = 58 := rfl
  have c1 : ∀ j, (wI (clV B m) (co + 2) 8 0).1 m j = if j < 14 then (if j = 10 then -1 else 0) else B.1 m j := fun j => by
    rw [wI_1, if_neg (by omega)]
    show (if m = m ∧ j < 14 then (if j = 10 then -1 else 0) else B.1 m j) = _
    by_cases q : j < 14
    · rw [if_pos ⟨rfl, q⟩, if_pos q]
    · rw [if_neg (fun y => q y.2), if_neg q]
  have c8 : (wI (clV B m) (co + 2) 8 0).1 (co + 2) 8 = 0 := by rw [wI_1, if_pos ⟨rfl, rfl⟩]
  have r1 : ∀ z, 0 ≤ z → z < 120 → (wI (clV B m) (co + 2) 8 0).2.2.2.1 (m + 1) z = -1 := fun z z0 z1 => by
    show (if m + 1 = m + 4 ∧ 0 ≤ z ∧ z < 96 then 0 else if m + 1 = m + 1 ∧ 0 ≤ z ∧ z < 120 then -1 else _) = _
    rw [if_neg (by omega), if_pos ⟨rfl, z0, z1⟩]
  have r4 : ∀ z, 0 ≤ z → z < 96 → (wI (clV B m) (co + 2) 8 0).2.2.2.1 (m + 4) z = 0 := fun z z0 z1 => by
    show (if m + 4 = m + 4 ∧ 0 ≤ z ∧ z < 96 then 0 else _) = _
    rw [if_pos ⟨rfl, z0, z1⟩]
  have x20 : (clM X).1 mo 20 = 0 := by
    show (wI X mo 20 0).1 mo 20 = 0
    rw [wI_1, if_pos ⟨rfl, rfl⟩]
  have x6 : (clM X).2.2.2.1 (mo + 6) 4 = 0 := by
    unfold clM
    simp
  have x7 : ∀ z, 60 ≤ z → z < 75 → (clM X).2.2.2.1 (mo + 7) z = 0 := fun z z0 z1 => by
    show (if mo + 7 = mo + 6 ∧ z = 4 then (0 : Int) else if mo + 7 = mo + 7 ∧ 60 ≤ z ∧ z < 75 then 0 else _) = 0
    rw [if_neg (by omega), if_pos ⟨rfl, z0, z1⟩]
  have x8 : ∀ z, 480 ≤ z → z < 600 → (clM X).2.2.2.1 (mo + 8) z = 0 := fun z z0 z1 => by
    show (if mo + 8 = mo + 6 ∧ z = 4 then (0 : Int) else if mo + 8 = mo + 7 ∧ 60 ≤ z ∧ z < 75 then 0 else if mo + 8 = mo + 8 ∧ 480 ≤ z ∧ z < 600 then 0 else _) = 0
    rw [if_neg (by omega), if_neg (by omega), if_pos ⟨rfl, z0, z1⟩]
  have x9 : ∀ z, 0 ≤ z → z < 120 → (clM X).2.2.2.1 (mo + 9) z = -1 := fun z z0 z1 => by
    show (if mo + 9 = mo + 6 ∧ z = 4 then (0 : Int) else if mo + 9 = mo + 7 ∧ 60 ≤ z ∧ z < 75 then 0 else if mo + 9 = mo + 8 ∧ 480 ≤ z ∧ z < 600 then 0 else if mo + 9 = mo + 9 ∧ 0 ≤ z ∧ z < 120 then -1 else _) = -1
    rw [if_neg (by omega), if_neg (by omega), if_neg (by omega), if_pos ⟨rfl, z0, z1⟩]
  refine ⟨?_, fun l h l0 l1 h0 h1 => ?_, fun s s0 s1 => ?_, fun s s0 s1 => ?_, fun s h s0 s1 h0 h1 => ?_, ?_⟩
  · unfold LRn VW
    rw [c1 0, c1 1, c1 2, c1 3, c1 4, c1 5, c1 6, c1 7, c1 8, c1 9, c1 13, c8, x20, x6, x7 60 (by omega) (by omega), x7 61 (by omega) (by omega), x7 62 (by omega) (by omega), x7 63 (by omega) (by omega), x7 64 (by omega) (by omega), x7 65 (by omega) (by omega), x7 66 (by omega) (by omega), x7 67 (by omega) (by omega), x7 68 (by omega) (by omega), x7 74 (by omega) (by omega)]
    simp
  · rw [x9 (24 * l + h) (by omega) (by omega), r1 (l * 24 + h) (by omega) (by omega), x8 (480 + (24 * l + h)) (by omega) (by omega)]
    exact ⟨by omega, by omega, fun h' a b => r1 (l * 24 + h') (by omega) (by omega), fun _ => rfl, fun a => by omega⟩
  · rw [c1 8] at s1
    simp at s1
    omega
  · rw [c1 9] at s1
    simp at s1
    omega
  · rw [c1 8, r4 (s * 24 + h) (by omega) (by omega)]
    refine ⟨fun _ => rfl, fun q => ?_⟩
    simp at q
    omega
  · refine Or.inl ⟨?_, x7 69 (by omega) (by omega)⟩
    rw [c1 10]
    rfl
end FN
