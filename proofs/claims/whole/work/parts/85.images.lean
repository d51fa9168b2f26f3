/-! images: keep, back -/
section IM1
variable {E : Ev} {B C : Bk} {n : Nat}
theorem vcp {d e : Nat} {q q' : Int} (hi : ∀ j, j < 14 → C.1 d j = B.1 e j) (hr : ∀ (i : Nat) (z : Int), 1 ≤ i → i ≤ 5 → 0 ≤ z → z < vLen i → C.2.2.2.1 (d + i) z = B.2.2.2.1 (e + i) z)
    (hb : ∀ r : Nat, (r = 6 ∨ r = 7 ∨ r = 8 ∨ r = 10 ∨ r = 11 ∨ r = 12 ∨ r = 13) → ∀ z, 0 ≤ z → z < bsz (mo + r) → C.2.2.2.1 (mo + r) (bsz (mo + r) * q' + z) = B.2.2.2.1 (mo + r) (bsz (mo + r) * q + z)) (w : VW B e) (v : VR B e q) (b : VB B e) : VW C d ∧ VR C d q' ∧ VB C d := by
  have z6 : bsz (mo + 6) = 1 := rfl
  have z7 : bsz (mo + 7) = 15 := rfl
  have z8 : bsz (mo + 8) = 120 := rfl
  have z10 : bsz (mo + 10) = 24 := rfl
  have z11 : bsz (mo + 11) = 15 := rfl
  have z12 : bsz (mo + 12) = 96 := rfl
  have z13 : bsz (mo + 13) = 240 := rfl
  have y1 : vLen 1 = 120 := rfl
  have y2 : vLen 2 = 24 := rfl
  have y3 : vLen 3 = 15 := rfl
  have y4 : vLen 4 = 96 := rfl
  have y5 : vLen 5 = 240 := rfl
  have b6 := hb 6 (by omega)
  have b7 := hb 7 (by omega)
  have b8 := hb 8 (by omega)
  have b10 := hb 10 (by omega)
  have b11 := hb 11 (by omega)
  have b12 := hb 12 (by omega)
  have b13 := hb 13 (by omega)
  rw [z6] at b6
  rw [z7] at b7
  rw [z8] at b8
  rw [z10] at b10
  rw [z11] at b11
  rw [z12] at b12
  rw [z13] at b13
  have w' := w
  obtain ⟨w0, w1, w2, w3, w4, w5, w6, w7, w8, w9⟩ := w'
  obtain ⟨v1, v2, v3, v4, v5, v6, v7, v8, v9⟩ := v
  obtain ⟨e1, e2, e3, e4, e5, e6, e7, e8, e9⟩ := b
  have r1 := fun z a b => hr 1 z (by omega) (by omega) a b
  have r2 := fun z a b => hr 2 z (by omega) (by omega) a b
  have r3 := fun z a b => hr 3 z (by omega) (by omega) a b
  have r4 := fun z a b => hr 4 z (by omega) (by omega) a b
  have r5 := fun z a b => hr 5 z (by omega) (by omega) a b
  have f9 := b7 9 (by omega) (by omega)
  have f10 := b7 10 (by omega) (by omega)
  have f11 := b7 11 (by omega) (by omega)
  have f12 := b7 12 (by omega) (by omega)
  have f13 := b7 13 (by omega) (by omega)
  refine ⟨?_, ⟨?_, fun k hk => ?_, ?_, fun l h a1 a2 a3 a4 => ?_, fun s k a1 a2 a3 a4 => ?_, fun i k a1 a2 a3 a4 => ?_, fun s h a1 a2 a3 a4 => ?_, fun i k a1 a2 a3 a4 => ?_, ?_⟩, ⟨?_, ?_, ?_, fun l h a1 a2 a3 a4 => ?_, fun s a1 a2 => ?_, fun i a1 a2 => ?_, fun s h a1 a2 a3 a4 => ?_, fun i a1 a2 => ?_, ?_⟩⟩
  · unfold VW
    rw [hi 0 (by omega), hi 1 (by omega), hi 2 (by omega), hi 3 (by omega), hi 4 (by omega), hi 5 (by omega), hi 6 (by omega), hi 7 (by omega), hi 8 (by omega), hi 9 (by omega)]
    exact w
  · have := b6 0 (by omega) (by omega)
    rw [show 1 * q' + 0 = q' by omega, show 1 * q + 0 = q by omega] at this
    rw [this, hi 0 (by omega)]
    exact v1
  · rw [b7 k (by omega) (by omega), hi (k + 1) (by omega)]
    exact v2 k hk
  · rw [b7 14 (by omega) (by omega), hi 13 (by omega)]
    exact v3
  · rw [hi 3 (by omega)] at a2
    rw [hi 4 (by omega)] at a4
    rw [b8 (24 * l + h) (by omega) (by omega), r1 _ (by omega) (by omega)]
    exact v4 l h a1 a2 a3 a4
  · rw [hi 8 (by omega)] at a2
    rw [b10 (6 * s + k) (by omega) (by omega), r2 _ (by omega) (by omega)]
    exact v5 s k a1 a2 a3 a4
  · rw [hi 9 (by omega)] at a2
    rw [b11 (3 * i + k) (by omega) (by omega), r3 _ (by omega) (by omega)]
    exact v6 i k a1 a2 a3 a4
  · rw [hi 8 (by omega)] at a2
    rw [hi 4 (by omega)] at a4
    rw [b12 (24 * s + h) (by omega) (by omega), r4 _ (by omega) (by omega)]
    exact v7 s h a1 a2 a3 a4
  · rw [hi 13 (by omega)] at a2
    rw [b13 (4 * i + k) (by omega) (by omega), r5 _ (by omega) (by omega)]
    exact v8 i k a1 a2 a3 a4
  · rw [hi 10 (by omega), hi 11 (by omega), hi 12 (by omega), hi 1 (by omega), hi 2 (by omega), f9, f10, f11, f12, f13]
    exact v9
  · rw [hi 13 (by omega)]
    exact e1
  · rw [hi 0 (by omega), hi 1 (by omega), hi 2 (by omega), hi 3 (by omega), hi 4 (by omega), hi 6 (by omega)]
    exact e2
  · rw [hi 0 (by omega), hi 1 (by omega), hi 2 (by omega), hi 3 (by omega), hi 4 (by omega), hi 8 (by omega), hi 9 (by omega), hi 13 (by omega)]
    exact e3
  · rw [hi 3 (by omega)] at a2
    rw [hi 4 (by omega)] at a4
    rw [r1 _ (by omega) (by omega)]
    exact e4 l h a1 a2 a3 a4
  · rw [hi 8 (by omega)] at a2
    rw [hi 1 (by omega), hi 2 (by omega), hi 3 (by omega), r2 _ (by omega) (by omega), r2 _ (by omega) (by omega), r2 _ (by omega) (by omega), r2 _ (by omega) (by omega), r2 _ (by omega) (by omega), r2 _ (by omega) (by omega)]
    exact e5 s a1 a2
  · rw [hi 9 (by omega)] at a2
    rw [hi 1 (by omega), hi 2 (by omega), r3 _ (by omega) (by omega), r3 _ (by omega) (by omega), r3 _ (by omega) (by omega)]
    exact e6 i a1 a2
  · rw [hi 8 (by omega)] at a2
    rw [hi 4 (by omega)] at a4
    rw [r4 _ (by omega) (by omega)]
    exact e7 s h a1 a2 a3 a4
  · rw [hi 13 (by omega)] at a2
    rw [hi 8 (by omega), hi 4 (by omega), r5 _ (by omega) (by omega), r5 _ (by omega) (by omega), r5 _ (by omega) (by omega), r5 _ (by omega) (by omega)]
    exact e8 i a1 a2
  · rw [hi 10 (by omega), hi 11 (by omega), hi 12 (by omega), hi 1 (by omega), hi 2 (by omega), hi 4 (by omega)]
    exact e9
/-- kinds and refs of the images -/
def IK (E : Ev) (B : Bk) : Prop := KD E (co + 17) 24 3 ∧ KD E (co + 18) 23 3 ∧ ∀ k, k < 3 → VK E (32 + 6 * k) ∧ B.2.2.1 (co + 17) k = some (32 + 6 * k)
/-- the images that are kept are the reference's -/
def IM (B : Bk) : Prop := ∀ k : Nat, k < 3 → (B.2.2.2.1 (co + 18) k = 0 ∨ B.2.2.2.1 (co + 18) k = 1) ∧ B.2.2.2.1 (mo + 14) k = B.2.2.2.1 (co + 18) k ∧ (B.2.2.2.1 (co + 18) k = 1 → VW B (32 + 6 * k) ∧ VR B (32 + 6 * k) (1 + (k : Int)) ∧ VB B (32 + 6 * k))
/-- what keep may change -/
def fI (B C : Bk) : Prop := (∀ d j, ¬ (32 ≤ d ∧ d < 50) → (d = mo → msv j) → C.1 d j = B.1 d j) ∧ (∀ d j, d ≠ mo → C.2.1 d j = B.2.1 d j) ∧ C.2.2.1 = B.2.2.1 ∧ (∀ d z, ¬ mscr d → ¬ (32 ≤ d ∧ d < 50) → d ≠ co + 18 → d ≠ mo + 14 → (bsz d = 0 ∨ z < bsz d) → C.2.2.2.1 d z = B.2.2.2.1 d z) ∧ (∀ d z, ¬ mscr d → C.2.2.2.2 d z = B.2.2.2.2 d z)
/-- an image's doors stay, or are the valley's -/
def DIm (B B2 : Bk) (n k : Nat) : Prop := (B.2.2.2.1 (co + 18) k = 1 ∧ B2.1 (32 + 6 * k) 9 = B.1 (32 + 6 * k) 9 ∧ ∀ z : Int, 0 ≤ z → z < 15 → B2.2.2.2.1 (32 + 6 * k + 3) z = B.2.2.2.1 (32 + 6 * k + 3) z) ∨ (B2.1 (32 + 6 * k) 9 = B.1 n 9 ∧ ∀ z : Int, 0 ≤ z → z < 15 → B2.2.2.2.1 (32 + 6 * k + 3) z = B.2.2.2.1 (n + 3) z)
def QI (E : Ev) (B : Bk) (n : Nat) (f g : Hp → Option (Int32 × Hp)) : Prop := ∃ v B1 B2, f (St E B) = some (v, St E B1) ∧ g (St E B1) = some (v, St E B2) ∧ fI B B2 ∧ IM B2 ∧ ∀ k : Nat, k < 3 → B2.2.2.2.1 (co + 18) k = 1 → DIm B B2 n k
theorem bsz_0 {d : Nat} (h : d < mo + 6 ∨ mo + 13 < d ∨ d = mo + 9) : bsz d = 0 := by
  unfold bsz
  rw [if_neg (by omega), if_neg (by omega), if_neg (by omega), if_neg (by omega), if_neg (by omega), if_neg (by omega), if_neg (by omega)]
theorem bsz_p {r : Nat} (h : r = 6 ∨ r = 7 ∨ r = 8 ∨ r = 10 ∨ r = 11 ∨ r = 12 ∨ r = 13) : 0 < bsz (mo + r) := by
  rcases h with rfl | rfl | rfl | rfl | rfl | rfl | rfl <;> decide
theorem fX_vLen {i : Nat} : 0 < vLen i := by
  unfold vLen
  repeat' split
  all_goals omega
end IM1
