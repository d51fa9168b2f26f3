/-! what a line leaves as it was; where it comes to -/
def FRc (m : Nat) (C C' : Bk) : Prop := (∀ d j, d ≠ m → ¬ (d = co + 2 ∧ j = 8) → C'.1 d j = C.1 d j) ∧ C'.2.1 = C.2.1 ∧ C'.2.2.1 = C.2.2.1 ∧ (∀ d, ¬ (m + 1 ≤ d ∧ d ≤ m + 4) → C'.2.2.2.1 d = C.2.2.2.1 d) ∧ C'.2.2.2.2 = C.2.2.2.2
theorem FRc_rfl {m : Nat} {C : Bk} : FRc m C C := ⟨fun _ _ _ _ => rfl, rfl, rfl, fun _ _ => rfl, rfl⟩
theorem FRc_tr {m : Nat} {A B C : Bk} (h : FRc m A B) (g : FRc m B C) : FRc m A C := ⟨fun d j p q => (g.1 d j p q).trans (h.1 d j p q), g.2.1.trans h.2.1, g.2.2.1.trans h.2.2.1, fun d p => (g.2.2.2.1 d p).trans (h.2.2.2.1 d p), g.2.2.2.2.trans h.2.2.2.2⟩
theorem FRc_I {m : Nat} {A C : Bk} {j : Nat} {x : Int} (h : FRc m A C) : FRc m A (wI C m j x) := FRc_tr h ⟨fun d k p q => by rw [wI_1, if_neg (fun w => p w.1)], rfl, rfl, fun _ _ => rfl, rfl⟩
theorem FRc_8 {m : Nat} {A C : Bk} {x : Int} (h : FRc m A C) : FRc m A (wI C (co + 2) 8 x) := FRc_tr h ⟨fun d k p q => by rw [wI_1, if_neg q], rfl, rfl, fun _ _ => rfl, rfl⟩
theorem FRc_A {m : Nat} {A C : Bk} {e : Nat} {z x : Int} (he : m + 1 ≤ e ∧ e ≤ m + 4) (h : FRc m A C) : FRc m A (wA C e z x) := FRc_tr h ⟨fun d k p q => rfl, rfl, rfl, fun d q => wA_r (fun w => q (w ▸ he)), rfl⟩
/-- places of the reference that a reading may change -/
def rdP (d : Nat) (z : Int) : Prop := (d = mo + 6 ∧ z = 4) ∨ (d = mo + 7 ∧ 60 ≤ z) ∨ (d = mo + 8 ∧ 480 ≤ z) ∨ d = mo + 9 ∨ (d = mo + 10 ∧ 96 ≤ z) ∨ (d = mo + 11 ∧ 60 ≤ z) ∨ (d = mo + 12 ∧ 384 ≤ z)
def FRr (R R' : Bk) : Prop := (∀ d j, ¬ (d = mo ∧ j = 20) → R'.1 d j = R.1 d j) ∧ R'.2.1 = R.2.1 ∧ R'.2.2.1 = R.2.2.1 ∧ (∀ d z, ¬ rdP d z → R'.2.2.2.1 d z = R.2.2.2.1 d z) ∧ R'.2.2.2.2 = R.2.2.2.2
theorem FRr_rfl {R : Bk} : FRr R R := ⟨fun _ _ _ => rfl, rfl, rfl, fun _ _ _ => rfl, rfl⟩
theorem FRr_tr {A B C : Bk} (h : FRr A B) (g : FRr B C) : FRr A C := ⟨fun d j p => (g.1 d j p).trans (h.1 d j p), g.2.1.trans h.2.1, g.2.2.1.trans h.2.2.1, fun d z p => (g.2.2.2.1 d z p).trans (h.2.2.2.1 d z p), g.2.2.2.2.trans h.2.2.2.2⟩
theorem FRr_20 {A C : Bk} {x : Int} (h : FRr A C) : FRr A (wI C mo 20 x) := FRr_tr h ⟨fun d k p => by rw [wI_1, if_neg p], rfl, rfl, fun _ _ _ => rfl, rfl⟩
theorem FRr_A {A C : Bk} {e : Nat} {z x : Int} (he : rdP e z) (h : FRr A C) : FRr A (wA C e z x) := FRr_tr h ⟨fun d k p => rfl, rfl, rfl, fun d z' q => by
  rw [wA_4, if_neg]
  rintro ⟨rfl, rfl⟩
  exact q he, rfl⟩
theorem FRr_wd {A C : Bk} {l f d j : Int} (hl : 0 ≤ l) (hf : 0 ≤ f) (h : FRr A C) : FRr A (wdB C l f d j) := FRr_tr h ⟨fun d k p => rfl, rfl, rfl, fun e z q => by
  show (if e = mo + 9 ∧ 24 * l + f ≤ z ∧ z < 24 * l + j ∧ C.2.2.2.1 (mo + 9) z ≤ f then f else if e = mo + 8 ∧ 24 * l + f ≤ z - 480 ∧ z - 480 < 24 * l + j ∧ C.2.2.2.1 (mo + 9) (z - 480) ≤ f then d else C.2.2.2.1 e z) = _
  unfold rdP at q
  rw [if_neg (by omega), if_neg (by omega)], rfl⟩
theorem FRr_pc {A C : Bk} {c j : Int} (hc : 0 ≤ c) (h : FRr A C) : FRr A (pcB C c j) := FRr_tr h ⟨fun d k p => rfl, rfl, rfl, fun e z q => by
  show (if e = mo + 12 ∧ 24 * (16 + c) ≤ z ∧ z < 24 * (16 + c) + j then 0 else C.2.2.2.1 e z) = _
  unfold rdP at q
  rw [if_neg (by omega)], rfl⟩
section FL
variable {T : Int → Int} {L : Int} {m : Nat} {C R : Bk}
theorem fr_ln (s : Sg T L) : FRc m C (lnB m C s) := by
  unfold lnB
  repeat' split
  · exact FRc_I (FRc_I (FRc_I (FRc_I (FRc_I (FRc_I FRc_rfl)))))
  · exact FRc_I (FRc_I FRc_rfl)
  all_goals first | exact FRc_rfl | skip
  all_goals first | (unfold wiB; split; exact FRc_A (by omega) (FRc_8 FRc_rfl); exact FRc_8 FRc_rfl) | skip
  all_goals first | (unfold shB; split; exact FRc_I (FRc_A (by omega) (FRc_A (by omega) (FRc_A (by omega) (FRc_A (by omega) (FRc_A (by omega) (FRc_A (by omega) FRc_rfl)))))); exact FRc_rfl) | skip
  all_goals first | (unfold doB; split; exact FRc_I (FRc_A (by omega) (FRc_A (by omega) (FRc_A (by omega) FRc_rfl))); exact FRc_rfl) | skip
  all_goals first | exact FRc_I (FRc_I (FRc_I FRc_rfl)) | skip
  all_goals (unfold pn_B; split; exact FRc_A (by omega) FRc_rfl; exact FRc_rfl)
theorem ln_0 (hm : 20 ≤ m) (s : Sg T L) : (lnB m C s).1 m 0 = C.1 m 0 := by
  have hco : co = 0 := rfl
  have n1 : ¬ m = co + 2 := by omega
  unfold lnB zsB sl_B wiB shB doB faB pn_B
  repeat' split
  all_goals simp [wI_1, wA_1, n1]
theorem fr_ml (t : Tg T L) (h67 : 0 ≤ R.2.2.2.1 (mo + 7) 67) (h68 : 0 ≤ R.2.2.2.1 (mo + 7) 68) : FRr R (mlB R t) := by
  have f7 : ∀ {A C : Bk} {z x : Int}, 60 ≤ z → FRr A C → FRr A (wA C (mo + 7) z x) := fun hz h => FRr_A (Or.inr (Or.inl ⟨rfl, hz⟩)) h
  have f10 : ∀ {A C : Bk} {z x : Int}, 96 ≤ z → FRr A C → FRr A (wA C (mo + 10) z x) := fun hz h => FRr_A (Or.inr (Or.inr (Or.inr (Or.inr (Or.inl ⟨rfl, hz⟩))))) h
  have f11 : ∀ {A C : Bk} {z x : Int}, 60 ≤ z → FRr A C → FRr A (wA C (mo + 11) z x) := fun hz h => FRr_A (Or.inr (Or.inr (Or.inr (Or.inr (Or.inr (Or.inl ⟨rfl, hz⟩)))))) h
  have f12 : ∀ {A C : Bk} {z x : Int}, 384 ≤ z → FRr A C → FRr A (wA C (mo + 12) z x) := fun hz h => FRr_A (Or.inr (Or.inr (Or.inr (Or.inr (Or.inr (Or.inr ⟨rfl, hz⟩)))))) h
  unfold mlB
  split
  · exact f7 (by omega) (f7 (by omega) (f7 (by omega) (f7 (by omega) (f7 (by omega) (f7 (by omega) FRr_rfl)))))
  · split
    · exact f7 (by omega) (f7 (by omega) FRr_rfl)
    · split
      · split
        · exact FRr_rfl
        · unfold wtB
          split
          · exact FRr_rfl
          · have v1 := mV_b (lo := 1) (hi := R.2.2.2.1 (mo + 7) 62 - 1) (mA t) (by omega)
            have v2 := mV_b (lo := 0) (hi := R.2.2.2.1 (mo + 7) 63 - 1) (wt1 (R.2.2.2.1 (mo + 7) 62) (mA t)) (by omega)
            exact FRr_wd (by omega) (by omega) (FRr_20 FRr_rfl)
      · split
        · split
          · exact FRr_rfl
          · exact f7 (by omega) (FRr_pc h67 (f10 (by omega) (f10 (by omega) (f10 (by omega) (f10 (by omega) (f10 (by omega) (f10 (by omega) FRr_rfl)))))))
        · split
          · split
            · exact FRr_rfl
            · exact f7 (by omega) (f11 (by omega) (f11 (by omega) (f11 (by omega) FRr_rfl)))
          · split
            · unfold ftB
              split
              · exact f7 (by omega) (f7 (by omega) (f7 (by omega) (f7 (by omega) (f7 (by omega) FRr_rfl))))
              · exact FRr_rfl
            · unfold ptB
              split
              · exact FRr_rfl
              · have v1 := mV_b (lo := 0) (hi := R.2.2.2.1 (mo + 7) 67 - 1) (mW 25 t) (by omega)
                have v2 := mV_b (lo := 0) (hi := R.2.2.2.1 (mo + 7) 63 - 1) (pt1 (R.2.2.2.1 (mo + 7) 67) (mW 25 t)) (by omega)
                exact f12 (by omega) FRr_rfl
theorem ml_6 (t : Tg T L) : (mlB R t).2.2.2.1 (mo + 6) 4 = R.2.2.2.1 (mo + 6) 4 := by
  have n1 : ¬ mo + 6 = mo + 9 := by omega
  unfold mlB ztB stB wtB htB htC dtB ftB ptB wdB pcB
  repeat' split
  all_goals simp [wA_4, wI_2]
/-- places -/
theorem lt3 {a b c : Int} (h : a ≤ b) (g : b ≤ c) : a ≤ c := Int.le_trans h g
theorem q_ln (s : Sg T L) : s.1.2.2.1 ≤ (lnS m C s).1.2.2.1 := by
  have qz : ∀ s : Sg T L, s.1.2.2.1 ≤ (zs6 s).1.2.2.1 := fun s => lt3 (qW 0 s) (lt3 (qW 1 _) (lt3 (qN 2 8 _) (lt3 (qW 2 _) (lt3 (qN 2 8 _) (lt3 (qW 3 _) (lt3 (qN 2 5 _) (lt3 (qW 4 _) (lt3 (qN 1 24 _) (lt3 (qW 5 _) (qN 0 24 _))))))))))
  have qse : ∀ (n : Int) (s : Sg T L), s.1.2.2.1 ≤ (se3 n s).1.2.2.1 := fun n s => lt3 (qA s) (lt3 (qW 7 _) (lt3 (qN 0 (n - 1) _) (lt3 (qW 8 _) (qN 0 99 _))))
  have qt : ∀ s : Sg T L, s.1.2.2.1 ≤ (cT s).1.2.2.1 := fun s => by
    unfold cT
    split
    · exact Int.le_refl _
    · exact qA s
  have qwi : ∀ (n h : Int) (s : Sg T L), s.1.2.2.1 ≤ (wi3 n h s).1.2.2.1 := fun n h s => lt3 (qA s) (lt3 (qN 1 (n - 1) _) (lt3 (qW 10 _) (lt3 (qN 0 (h - 1) _) (qt _))))
  have qsh : ∀ (w d n : Int) (s : Sg T L), s.1.2.2.1 ≤ (sh7 w d n s).1.2.2.1 := fun w d n s => lt3 (qA s) (lt3 (qW 17 _) (lt3 (qN 0 (w - 1) _) (lt3 (qN 0 (d - 1) _) (lt3 (qN 0 (n - 1) _) (lt3 (qW 18 _) (lt3 (qN 0 9 _) (lt3 (qW 19 _) (lt3 (qN 0 9 _) (lt3 (qW 20 _) (qN 0 9 _))))))))))
  have q3 : ∀ (w d : Int) (s : Sg T L), s.1.2.2.1 ≤ (do3 w d s).1.2.2.1 := fun w d s => lt3 (qA s) (lt3 (qW 17 _) (lt3 (qN 0 (w - 1) _) (qN 0 (d - 1) _)))
  have q4 : ∀ s : Sg T L, s.1.2.2.1 ≤ (do4 m C s).1.2.2.1 := fun s => by
    unfold do4
    split
    · exact q3 _ _ s
    · exact q3 _ _ s
  have qdo : ∀ s : Sg T L, s.1.2.2.1 ≤ (do6 m C s).1.2.2.1 := fun s => lt3 (q4 s) (lt3 (qW 22 _) (qN 0 9 _))
  have qfa : ∀ (w d h : Int) (s : Sg T L), s.1.2.2.1 ≤ (fa5 w d h s).1.2.2.1 := fun w d h s => lt3 (qA s) (lt3 (qW 17 _) (lt3 (qN 0 (w - 1) _) (lt3 (qN 0 (d - 1) _) (lt3 (qW 10 _) (lt3 (qN 0 (h - 1) _) (lt3 (qW 24 _) (qN _ _ _)))))))
  have qpl : ∀ (n h : Int) (s : Sg T L), s.1.2.2.1 ≤ (pl3 n h s).1.2.2.1 := fun n h s => by
    have q2 : s.1.2.2.1 ≤ (pl2 n h s).1.2.2.1 := lt3 (qA s) (lt3 (qN 0 (n - 1) _) (qN 0 (h - 1) _))
    unfold pl3
    split
    · exact lt3 q2 (qW 26 _)
    · exact lt3 q2 (qW 27 _)
  have qc : ∀ (b : Prop) [Decidable b] (s : Sg T L), s.1.2.2.1 ≤ (if b then s else cF 3 s.1.2.2.1 (by omega) s).1.2.2.1 := fun b _ s => by
    split
    · exact Int.le_refl _
    · exact Int.le_refl _
  unfold lnS
  split
  · exact qz s
  · split
    · exact qse _ s
    · split
      · exact lt3 (qc _ s) (qwi _ _ _)
      · split
        · exact lt3 (qc _ s) (qsh _ _ _ _)
        · split
          · exact lt3 (qc _ s) (qdo _)
          · split
            · exact qfa _ _ _ s
            · split
              · exact qpl _ _ s
              · exact Int.le_refl _
theorem bdG {k p : Int} (hk : ¬ k = 0) {s : Sg T L} (h : Bd k p s) : Bd k p (cG s) := by
  unfold cG
  split
  · exact bdA h
  · exact bdF hk _ h
end FL
