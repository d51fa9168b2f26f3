/-! raw cells are typed cells -/
def zv (b d t : Nat) : Value := if t = 0 then .int 0 else if t = 1 then .long 0 else if t = 2 then .null else .ref (b + (d + (t - 10)))
def clz (b : Nat) (B : Bk) : Nat → List (Nat × Nat) → List PC
  | _, [] => []
  | c, t :: T => cellB b t B c :: clz b B (c + 1) T
theorem cls_at {b : Nat} {B : Bk} : ∀ (T : List (Nat × Nat)) (c i : Nat), i < T.length → (clz b B c T).getD i nilC = cellB b (T.getD i (99, 0)) B (c + i)
  | [], _, i, h => absurd h (Nat.not_lt_zero i)
  | t :: T, c, 0, _ => rfl
  | t :: T, c, i + 1, h => by
    have e := cls_at (b := b) (B := B) T (c + 1) i (Nat.lt_of_succ_lt_succ h)
    rw [show c + 1 + i = c + (i + 1) by omega] at e
    exact e
theorem cls_n {b : Nat} {B : Bk} : ∀ (T : List (Nat × Nat)) (c : Nat), (clz b B c T).length = T.length
  | [], _ => rfl
  | t :: T, c => congrArg Nat.succ (cls_n T (c + 1))
theorem cls_c {b c : Nat} {B : Bk} {x : PC} {l : List PC} {t : Nat × Nat} {T : List (Nat × Nat)} (h : x = cellB b t B c) (g : l = clz b B (c + 1) T) : x :: l = clz b B c (t :: T) := by rw [h, g]; rfl
theorem zc_i {b t k d : Nat} {B : Bk} (ht : t = 20 ∨ t = 22 ∨ t = 23) (h : ∀ z, B.2.2.2.1 d z = 0) : zC t k (.int 0) = cellB b (t, k) B d := by
  refine Prod.ext (by rw [cellB_1]; rfl) (Prod.ext (by rw [cellB_2]; rfl) ?_)
  funext j
  rw [cellB_i ht]
  show Value.int 0 = .int (iI (B.2.2.2.1 d (j : Int)))
  rw [h]
  rfl
theorem zc_l {b k d : Nat} {B : Bk} (h : ∀ z, B.2.2.2.2 d z = 0) : zC 21 k (.long 0) = cellB b (21, k) B d := by
  unfold cellB
  rw [if_neg (by show ¬ (21 : Nat) < 20; decide), if_pos rfl]
  refine Prod.ext rfl (Prod.ext rfl (funext fun j => ?_))
  show Value.long 0 = .long (B.2.2.2.2 d (j : Int))
  rw [h]
theorem rc_ {b t k d : Nat} {B : Bk} {f : Nat → Value} (ht : 24 ≤ t) (h : ∀ j, f j = va_rf ((B.2.2.1 d j).map (b + ·))) : (t, k, f) = cellB b (t, k) B d := by
  unfold cellB
  rw [if_neg (by show ¬ t < 20; omega), if_neg (by show ¬ t = 21; omega), if_neg (by show ¬ t < 24; omega)]
  exact Prod.ext rfl (Prod.ext rfl (funext h))
theorem ic_ {b k d : Nat} {B : Bk} {f : Nat → Value} (h : ∀ j : Nat, f j = .int (iI (B.2.2.2.1 d (j : Int)))) : (20, k, f) = cellB b (20, k) B d := by
  unfold cellB
  rw [if_neg (by show ¬ (20 : Nat) < 20; decide), if_neg (by show ¬ (20 : Nat) = 21; decide), if_pos (by show (20 : Nat) < 24; decide)]
  exact Prod.ext rfl (Prod.ext rfl (funext h))
theorem oc_ {b t k d : Nat} {B : Bk} {f : Nat → Value} (ht : t < 20) (h : ∀ j, f j = fv b t B d j) : (t, k, f) = cellB b (t, k) B d := by
  unfold cellB
  rw [if_pos (by exact ht)]
  exact Prod.ext rfl (Prod.ext rfl (funext h))
theorem up_x {X : Nat → Prop} {f g : Nat → Value} {j : Nat} {v : Value} (hv : v = g j) (h : ∀ i, ¬ (X i ∨ i = j) → f i = g i) : ∀ i, ¬ X i → va_up f j v i = g i := fun i hi => by
  unfold va_up
  by_cases c : i = j
  · rw [if_pos c, c, hv]
  · rw [if_neg c, h i (fun w => w.elim hi c)]
theorem fv_z {b c d i : Nat} {B : Bk} (h1 : B.1 d i = 0) (h2 : B.2.1 d i = 0) (h3 : B.2.2.1 d i = none) : fv b c B d i = zv b d (ft c i) := by
  unfold fv zv
  rw [h1, h2, h3, iI_0]
  rfl

theorem bs0 {b d : Nat} : ∀ i : Nat, ¬ (False ∨ i = 0) → df0 i = zv b d (ft 0 i)
  | 0, h => absurd h (by simp)
  | 1, h => rfl
  | _ + 2, _ => rfl
theorem oc0 {a b d : Nat} {B : Bk} (ha : a = b + d) (z : ∀ i : Nat, ¬ (False ∨ i = 0) → B.1 d i = 0 ∧ B.2.1 d i = 0 ∧ B.2.2.1 d i = none)  : (0, 2, va_up (df0) 0 (.ref (a + 1))) = cellB b (0, 2) B d := by
  subst ha
  refine oc_ (by omega) (fun i => ?_)
  have h0 : ∀ i : Nat, ¬ False → (va_up (df0) 0 (.ref (b + d + 1))) i = fv b 0 B d i := up_x (by show _ = Value.ref (b + (d + (11 - 10))); exact congrArg Value.ref (show (b + d + 1 : Nat) = b + (d + (11 - 10)) by omega)) (fun i h => by rw [fv_z (z i h).1 (z i h).2.1 (z i h).2.2]; exact bs0 i h)
  exact h0 i (fun h => h)
theorem bs1 {b d : Nat} : ∀ i : Nat, ¬ ((False ∨ i = 6) ∨ i = 0) → df1 i = zv b d (ft 1 i)
  | 0, h => absurd h (by simp)
  | 1, h => rfl
  | 2, h => rfl
  | 3, h => rfl
  | 4, h => rfl
  | 5, h => rfl
  | 6, h => absurd h (by simp)
  | 7, h => rfl
  | 8, h => rfl
  | 9, h => rfl
  | _ + 10, _ => rfl
theorem oc1 {a b d : Nat} {B : Bk} (ha : a = b + d) (z : ∀ i : Nat, ¬ ((False ∨ i = 6) ∨ i = 0) → B.1 d i = 0 ∧ B.2.1 d i = 0 ∧ B.2.2.1 d i = none) (h6 : B.1 d 6 = (-1)) : (1, 10, va_up (va_up (df1) 0 (.ref (a + 1))) 6 (.int (iI (-1)))) = cellB b (1, 10) B d := by
  subst ha
  refine oc_ (by omega) (fun i => ?_)
  have h0 : ∀ i : Nat, ¬ False → (va_up (va_up (df1) 0 (.ref (b + d + 1))) 6 (.int (iI (-1)))) i = fv b 1 B d i := up_x (by show _ = Value.int (iI (B.1 d 6)); rw [h6]) (up_x (by show _ = Value.ref (b + (d + (11 - 10))); exact congrArg Value.ref (show (b + d + 1 : Nat) = b + (d + (11 - 10)) by omega)) (fun i h => by rw [fv_z (z i h).1 (z i h).2.1 (z i h).2.2]; exact bs1 i h))
  exact h0 i (fun h => h)
theorem bs2 {b d : Nat} : ∀ i : Nat, ¬ (((False ∨ i = 2) ∨ i = 1) ∨ i = 0) → df2 i = zv b d (ft 2 i)
  | 0, h => absurd h (by simp)
  | 1, h => absurd h (by simp)
  | 2, h => absurd h (by simp)
  | 3, h => rfl
  | 4, h => rfl
  | _ + 5, _ => rfl
theorem oc2 {a b d : Nat} {B : Bk} (ha : a = b + d) (z : ∀ i : Nat, ¬ (((False ∨ i = 2) ∨ i = 1) ∨ i = 0) → B.1 d i = 0 ∧ B.2.1 d i = 0 ∧ B.2.2.1 d i = none)  : (2, 5, va_up (va_up (va_up (df2) 0 (.ref (a + 1))) 1 (.ref (a + 2))) 2 (.ref (a + 3))) = cellB b (2, 5) B d := by
  subst ha
  refine oc_ (by omega) (fun i => ?_)
  have h0 : ∀ i : Nat, ¬ False → (va_up (va_up (va_up (df2) 0 (.ref (b + d + 1))) 1 (.ref (b + d + 2))) 2 (.ref (b + d + 3))) i = fv b 2 B d i := up_x (by show _ = Value.ref (b + (d + (13 - 10))); exact congrArg Value.ref (show (b + d + 3 : Nat) = b + (d + (13 - 10)) by omega)) (up_x (by show _ = Value.ref (b + (d + (12 - 10))); exact congrArg Value.ref (show (b + d + 2 : Nat) = b + (d + (12 - 10)) by omega)) (up_x (by show _ = Value.ref (b + (d + (11 - 10))); exact congrArg Value.ref (show (b + d + 1 : Nat) = b + (d + (11 - 10)) by omega)) (fun i h => by rw [fv_z (z i h).1 (z i h).2.1 (z i h).2.2]; exact bs2 i h)))
  exact h0 i (fun h => h)
theorem bs3 {b d : Nat} : ∀ i : Nat, ¬ (False ∨ i = 1) → df3 i = zv b d (ft 3 i)
  | 0, h => rfl
  | 1, h => absurd h (by simp)
  | 2, h => rfl
  | 3, h => rfl
  | 4, h => rfl
  | 5, h => rfl
  | 6, h => rfl
  | 7, h => rfl
  | 8, h => rfl
  | 9, h => rfl
  | _ + 10, _ => rfl
theorem oc3 {a b d : Nat} {B : Bk} (ha : a = b + d) (z : ∀ i : Nat, ¬ (False ∨ i = 1) → B.1 d i = 0 ∧ B.2.1 d i = 0 ∧ B.2.2.1 d i = none) (h1 : B.1 d 1 = (-1)) : (3, 10, va_up (df3) 1 (.int (iI (-1)))) = cellB b (3, 10) B d := by
  subst ha
  refine oc_ (by omega) (fun i => ?_)
  have h0 : ∀ i : Nat, ¬ False → (va_up (df3) 1 (.int (iI (-1)))) i = fv b 3 B d i := up_x (by show _ = Value.int (iI (B.1 d 1)); rw [h1]) (fun i h => by rw [fv_z (z i h).1 (z i h).2.1 (z i h).2.2]; exact bs3 i h)
  exact h0 i (fun h => h)
theorem bs4 {b d : Nat} : ∀ i : Nat, ¬ ((((False ∨ i = 3) ∨ i = 2) ∨ i = 1) ∨ i = 0) → df4 i = zv b d (ft 4 i)
  | 0, h => absurd h (by simp)
  | 1, h => absurd h (by simp)
  | 2, h => absurd h (by simp)
  | 3, h => absurd h (by simp)
  | 4, h => rfl
  | 5, h => rfl
  | 6, h => rfl
  | 7, h => rfl
  | 8, h => rfl
  | 9, h => rfl
  | 10, h => rfl
  | _ + 11, _ => rfl
theorem oc4 {a b d : Nat} {B : Bk} (ha : a = b + d) (z : ∀ i : Nat, ¬ ((((False ∨ i = 3) ∨ i = 2) ∨ i = 1) ∨ i = 0) → B.1 d i = 0 ∧ B.2.1 d i = 0 ∧ B.2.2.1 d i = none)  : (4, 11, va_up (va_up (va_up (va_up (df4) 0 (.ref (a + 1))) 1 (.ref (a + 2))) 2 (.ref (a + 4))) 3 (.ref (a + 6))) = cellB b (4, 11) B d := by
  subst ha
  refine oc_ (by omega) (fun i => ?_)
  have h0 : ∀ i : Nat, ¬ False → (va_up (va_up (va_up (va_up (df4) 0 (.ref (b + d + 1))) 1 (.ref (b + d + 2))) 2 (.ref (b + d + 4))) 3 (.ref (b + d + 6))) i = fv b 4 B d i := up_x (by show _ = Value.ref (b + (d + (16 - 10))); exact congrArg Value.ref (show (b + d + 6 : Nat) = b + (d + (16 - 10)) by omega)) (up_x (by show _ = Value.ref (b + (d + (14 - 10))); exact congrArg Value.ref (show (b + d + 4 : Nat) = b + (d + (14 - 10)) by omega)) (up_x (by show _ = Value.ref (b + (d + (12 - 10))); exact congrArg Value.ref (show (b + d + 2 : Nat) = b + (d + (12 - 10)) by omega)) (up_x (by show _ = Value.ref (b + (d + (11 - 10))); exact congrArg Value.ref (show (b + d + 1 : Nat) = b + (d + (11 - 10)) by omega)) (fun i h => by rw [fv_z (z i h).1 (z i h).2.1 (z i h).2.2]; exact bs4 i h))))
  exact h0 i (fun h => h)
theorem bs5 {b d : Nat} : ∀ i : Nat, ¬ ((False ∨ i = 1) ∨ i = 0) → df5 i = zv b d (ft 5 i)
  | 0, h => absurd h (by simp)
  | 1, h => absurd h (by simp)
  | 2, h => rfl
  | _ + 3, _ => rfl
theorem oc5 {a b d : Nat} {B : Bk} (ha : a = b + d) (z : ∀ i : Nat, ¬ ((False ∨ i = 1) ∨ i = 0) → B.1 d i = 0 ∧ B.2.1 d i = 0 ∧ B.2.2.1 d i = none) (h1 : B.1 d 1 = (-1)) : (5, 3, va_up (va_up (df5) 0 (.ref (a + 1))) 1 (.int (iI (-1)))) = cellB b (5, 3) B d := by
  subst ha
  refine oc_ (by omega) (fun i => ?_)
  have h0 : ∀ i : Nat, ¬ False → (va_up (va_up (df5) 0 (.ref (b + d + 1))) 1 (.int (iI (-1)))) i = fv b 5 B d i := up_x (by show _ = Value.int (iI (B.1 d 1)); rw [h1]) (up_x (by show _ = Value.ref (b + (d + (11 - 10))); exact congrArg Value.ref (show (b + d + 1 : Nat) = b + (d + (11 - 10)) by omega)) (fun i h => by rw [fv_z (z i h).1 (z i h).2.1 (z i h).2.2]; exact bs5 i h))
  exact h0 i (fun h => h)
theorem bs6 {b d : Nat} : ∀ i : Nat, ¬ ((((((False ∨ i = 18) ∨ i = 17) ∨ i = 16) ∨ i = 15) ∨ i = 14) ∨ i = 10) → df6 i = zv b d (ft 6 i)
  | 0, h => rfl
  | 1, h => rfl
  | 2, h => rfl
  | 3, h => rfl
  | 4, h => rfl
  | 5, h => rfl
  | 6, h => rfl
  | 7, h => rfl
  | 8, h => rfl
  | 9, h => rfl
  | 10, h => absurd h (by simp)
  | 11, h => rfl
  | 12, h => rfl
  | 13, h => rfl
  | 14, h => absurd h (by simp)
  | 15, h => absurd h (by simp)
  | 16, h => absurd h (by simp)
  | 17, h => absurd h (by simp)
  | 18, h => absurd h (by simp)
  | _ + 19, _ => rfl
theorem oc6 {a b d : Nat} {B : Bk} (ha : a = b + d) (z : ∀ i : Nat, ¬ ((((((False ∨ i = 18) ∨ i = 17) ∨ i = 16) ∨ i = 15) ∨ i = 14) ∨ i = 10) → B.1 d i = 0 ∧ B.2.1 d i = 0 ∧ B.2.2.1 d i = none) (h10 : B.1 d 10 = (-1)) : (6, 19, va_up (va_up (va_up (va_up (va_up (va_up (df6) 10 (.int (iI (-1)))) 14 (.ref (a + 1))) 15 (.ref (a + 2))) 16 (.ref (a + 3))) 17 (.ref (a + 4))) 18 (.ref (a + 5))) = cellB b (6, 19) B d := by
  subst ha
  refine oc_ (by omega) (fun i => ?_)
  have h0 : ∀ i : Nat, ¬ False → (va_up (va_up (va_up (va_up (va_up (va_up (df6) 10 (.int (iI (-1)))) 14 (.ref (b + d + 1))) 15 (.ref (b + d + 2))) 16 (.ref (b + d + 3))) 17 (.ref (b + d + 4))) 18 (.ref (b + d + 5))) i = fv b 6 B d i := up_x (by show _ = Value.ref (b + (d + (15 - 10))); exact congrArg Value.ref (show (b + d + 5 : Nat) = b + (d + (15 - 10)) by omega)) (up_x (by show _ = Value.ref (b + (d + (14 - 10))); exact congrArg Value.ref (show (b + d + 4 : Nat) = b + (d + (14 - 10)) by omega)) (up_x (by show _ = Value.ref (b + (d + (13 - 10))); exact congrArg Value.ref (show (b + d + 3 : Nat) = b + (d + (13 - 10)) by omega)) (up_x (by show _ = Value.ref (b + (d + (12 - 10))); exact congrArg Value.ref (show (b + d + 2 : Nat) = b + (d + (12 - 10)) by omega)) (up_x (by show _ = Value.ref (b + (d + (11 - 10))); exact congrArg Value.ref (show (b + d + 1 : Nat) = b + (d + (11 - 10)) by omega)) (up_x (by show _ = Value.int (iI (B.1 d 10)); rw [h10]) (fun i h => by rw [fv_z (z i h).1 (z i h).2.1 (z i h).2.2]; exact bs6 i h))))))
  exact h0 i (fun h => h)
theorem bs7 {b d : Nat} : ∀ i : Nat, ¬ ((((((False ∨ i = 5) ∨ i = 4) ∨ i = 3) ∨ i = 2) ∨ i = 1) ∨ i = 0) → df7 i = zv b d (ft 7 i)
  | 0, h => absurd h (by simp)
  | 1, h => absurd h (by simp)
  | 2, h => absurd h (by simp)
  | 3, h => absurd h (by simp)
  | 4, h => absurd h (by simp)
  | 5, h => absurd h (by simp)
  | 6, h => rfl
  | 7, h => rfl
  | 8, h => rfl
  | _ + 9, _ => rfl
theorem oc7 {a b d : Nat} {B : Bk} (ha : a = b + d) (z : ∀ i : Nat, ¬ ((((((False ∨ i = 5) ∨ i = 4) ∨ i = 3) ∨ i = 2) ∨ i = 1) ∨ i = 0) → B.1 d i = 0 ∧ B.2.1 d i = 0 ∧ B.2.2.1 d i = none)  : (7, 9, va_up (va_up (va_up (va_up (va_up (va_up (df7) 0 (.ref (a + 1))) 1 (.ref (a + 2))) 2 (.ref (a + 3))) 3 (.ref (a + 4))) 4 (.ref (a + 5))) 5 (.ref (a + 6))) = cellB b (7, 9) B d := by
  subst ha
  refine oc_ (by omega) (fun i => ?_)
  have h0 : ∀ i : Nat, ¬ False → (va_up (va_up (va_up (va_up (va_up (va_up (df7) 0 (.ref (b + d + 1))) 1 (.ref (b + d + 2))) 2 (.ref (b + d + 3))) 3 (.ref (b + d + 4))) 4 (.ref (b + d + 5))) 5 (.ref (b + d + 6))) i = fv b 7 B d i := up_x (by show _ = Value.ref (b + (d + (16 - 10))); exact congrArg Value.ref (show (b + d + 6 : Nat) = b + (d + (16 - 10)) by omega)) (up_x (by show _ = Value.ref (b + (d + (15 - 10))); exact congrArg Value.ref (show (b + d + 5 : Nat) = b + (d + (15 - 10)) by omega)) (up_x (by show _ = Value.ref (b + (d + (14 - 10))); exact congrArg Value.ref (show (b + d + 4 : Nat) = b + (d + (14 - 10)) by omega)) (up_x (by show _ = Value.ref (b + (d + (13 - 10))); exact congrArg Value.ref (show (b + d + 3 : Nat) = b + (d + (13 - 10)) by omega)) (up_x (by show _ = Value.ref (b + (d + (12 - 10))); exact congrArg Value.ref (show (b + d + 2 : Nat) = b + (d + (12 - 10)) by omega)) (up_x (by show _ = Value.ref (b + (d + (11 - 10))); exact congrArg Value.ref (show (b + d + 1 : Nat) = b + (d + (11 - 10)) by omega)) (fun i h => by rw [fv_z (z i h).1 (z i h).2.1 (z i h).2.2]; exact bs7 i h))))))
  exact h0 i (fun h => h)
theorem bs8 {b d : Nat} : ∀ i : Nat, ¬ ((((((((((False ∨ i = 12) ∨ i = 8) ∨ i = 7) ∨ i = 6) ∨ i = 5) ∨ i = 4) ∨ i = 3) ∨ i = 2) ∨ i = 1) ∨ i = 0) → df8 i = zv b d (ft 8 i)
  | 0, h => absurd h (by simp)
  | 1, h => absurd h (by simp)
  | 2, h => absurd h (by simp)
  | 3, h => absurd h (by simp)
  | 4, h => absurd h (by simp)
  | 5, h => absurd h (by simp)
  | 6, h => absurd h (by simp)
  | 7, h => absurd h (by simp)
  | 8, h => absurd h (by simp)
  | 9, h => rfl
  | 10, h => rfl
  | 11, h => rfl
  | 12, h => absurd h (by simp)
  | _ + 13, _ => rfl
theorem oc8 {a b d : Nat} {B : Bk} (ha : a = b + d) (z : ∀ i : Nat, ¬ ((((((((((False ∨ i = 12) ∨ i = 8) ∨ i = 7) ∨ i = 6) ∨ i = 5) ∨ i = 4) ∨ i = 3) ∨ i = 2) ∨ i = 1) ∨ i = 0) → B.1 d i = 0 ∧ B.2.1 d i = 0 ∧ B.2.2.1 d i = none) (h7 : B.2.2.1 d 7 = some (20 + d)) (h8 : B.2.2.1 d 8 = some (26 + d)) (h12 : B.1 d 12 = 1) : (8, 13, va_up (va_up (va_up (va_up (va_up (va_up (va_up (va_up (va_up (va_up (df8) 0 (.ref (a + 1))) 1 (.ref (a + 2))) 2 (.ref (a + 3))) 3 (.ref (a + 10))) 4 (.ref (a + 17))) 5 (.ref (a + 18))) 6 (.ref (a + 19))) 7 (.ref (a + 20))) 8 (.ref (a + 26))) 12 (.int (iI 1))) = cellB b (8, 13) B d := by
  subst ha
  refine oc_ (by omega) (fun i => ?_)
  have h0 : ∀ i : Nat, ¬ False → (va_up (va_up (va_up (va_up (va_up (va_up (va_up (va_up (va_up (va_up (df8) 0 (.ref (b + d + 1))) 1 (.ref (b + d + 2))) 2 (.ref (b + d + 3))) 3 (.ref (b + d + 10))) 4 (.ref (b + d + 17))) 5 (.ref (b + d + 18))) 6 (.ref (b + d + 19))) 7 (.ref (b + d + 20))) 8 (.ref (b + d + 26))) 12 (.int (iI 1))) i = fv b 8 B d i := up_x (by show _ = Value.int (iI (B.1 d 12)); rw [h12]) (up_x (by show _ = va_rf ((B.2.2.1 d 8).map (b + ·)); rw [h8]; exact congrArg Value.ref (show (b + d + 26 : Nat) = b + (26 + d) by omega)) (up_x (by show _ = va_rf ((B.2.2.1 d 7).map (b + ·)); rw [h7]; exact congrArg Value.ref (show (b + d + 20 : Nat) = b + (20 + d) by omega)) (up_x (by show _ = Value.ref (b + (d + (29 - 10))); exact congrArg Value.ref (show (b + d + 19 : Nat) = b + (d + (29 - 10)) by omega)) (up_x (by show _ = Value.ref (b + (d + (28 - 10))); exact congrArg Value.ref (show (b + d + 18 : Nat) = b + (d + (28 - 10)) by omega)) (up_x (by show _ = Value.ref (b + (d + (27 - 10))); exact congrArg Value.ref (show (b + d + 17 : Nat) = b + (d + (27 - 10)) by omega)) (up_x (by show _ = Value.ref (b + (d + (20 - 10))); exact congrArg Value.ref (show (b + d + 10 : Nat) = b + (d + (20 - 10)) by omega)) (up_x (by show _ = Value.ref (b + (d + (13 - 10))); exact congrArg Value.ref (show (b + d + 3 : Nat) = b + (d + (13 - 10)) by omega)) (up_x (by show _ = Value.ref (b + (d + (12 - 10))); exact congrArg Value.ref (show (b + d + 2 : Nat) = b + (d + (12 - 10)) by omega)) (up_x (by show _ = Value.ref (b + (d + (11 - 10))); exact congrArg Value.ref (show (b + d + 1 : Nat) = b + (d + (11 - 10)) by omega)) (fun i h => by rw [fv_z (z i h).1 (z i h).2.1 (z i h).2.2]; exact bs8 i h))))))))))
  exact h0 i (fun h => h)
theorem bs9 {b d : Nat} : ∀ i : Nat, ¬ ((((((((((((((((((((((((((False ∨ i = 51) ∨ i = 50) ∨ i = 49) ∨ i = 41) ∨ i = 40) ∨ i = 39) ∨ i = 32) ∨ i = 31) ∨ i = 30) ∨ i = 29) ∨ i = 28) ∨ i = 25) ∨ i = 24) ∨ i = 23) ∨ i = 22) ∨ i = 21) ∨ i = 19) ∨ i = 18) ∨ i = 17) ∨ i = 16) ∨ i = 15) ∨ i = 5) ∨ i = 4) ∨ i = 3) ∨ i = 2) ∨ i = 1) → df9 i = zv b d (ft 9 i)
  | 0, h => rfl
  | 1, h => absurd h (by simp)
  | 2, h => absurd h (by simp)
  | 3, h => absurd h (by simp)
  | 4, h => absurd h (by simp)
  | 5, h => absurd h (by simp)
  | 6, h => rfl
  | 7, h => rfl
  | 8, h => rfl
  | 9, h => rfl
  | 10, h => rfl
  | 11, h => rfl
  | 12, h => rfl
  | 13, h => rfl
  | 14, h => rfl
  | 15, h => absurd h (by simp)
  | 16, h => absurd h (by simp)
  | 17, h => absurd h (by simp)
  | 18, h => absurd h (by simp)
  | 19, h => absurd h (by simp)
  | 20, h => rfl
  | 21, h => absurd h (by simp)
  | 22, h => absurd h (by simp)
  | 23, h => absurd h (by simp)
  | 24, h => absurd h (by simp)
  | 25, h => absurd h (by simp)
  | 26, h => rfl
  | 27, h => rfl
  | 28, h => absurd h (by simp)
  | 29, h => absurd h (by simp)
  | 30, h => absurd h (by simp)
  | 31, h => absurd h (by simp)
  | 32, h => absurd h (by simp)
  | 33, h => rfl
  | 34, h => rfl
  | 35, h => rfl
  | 36, h => rfl
  | 37, h => rfl
  | 38, h => rfl
  | 39, h => absurd h (by simp)
  | 40, h => absurd h (by simp)
  | 41, h => absurd h (by simp)
  | 42, h => rfl
  | 43, h => rfl
  | 44, h => rfl
  | 45, h => rfl
  | 46, h => rfl
  | 47, h => rfl
  | 48, h => rfl
  | 49, h => absurd h (by simp)
  | 50, h => absurd h (by simp)
  | 51, h => absurd h (by simp)
  | _ + 52, _ => rfl
theorem oc9 {a b d : Nat} {B : Bk} (ha : a = b + d) (z : ∀ i : Nat, ¬ ((((((((((((((((((((((((((False ∨ i = 51) ∨ i = 50) ∨ i = 49) ∨ i = 41) ∨ i = 40) ∨ i = 39) ∨ i = 32) ∨ i = 31) ∨ i = 30) ∨ i = 29) ∨ i = 28) ∨ i = 25) ∨ i = 24) ∨ i = 23) ∨ i = 22) ∨ i = 21) ∨ i = 19) ∨ i = 18) ∨ i = 17) ∨ i = 16) ∨ i = 15) ∨ i = 5) ∨ i = 4) ∨ i = 3) ∨ i = 2) ∨ i = 1) → B.1 d i = 0 ∧ B.2.1 d i = 0 ∧ B.2.2.1 d i = none) (h15 : B.1 d 15 = (-1)) : (9, 52, va_up (va_up (va_up (va_up (va_up (va_up (va_up (va_up (va_up (va_up (va_up (va_up (va_up (va_up (va_up (va_up (va_up (va_up (va_up (va_up (va_up (va_up (va_up (va_up (va_up (va_up (df9) 1 (.ref (a + 1))) 2 (.ref (a + 2))) 3 (.ref (a + 3))) 4 (.ref (a + 4))) 5 (.ref (a + 5))) 15 (.int (iI (-1)))) 16 (.ref (a + 6))) 17 (.ref (a + 7))) 18 (.ref (a + 8))) 19 (.ref (a + 9))) 21 (.ref (a + 10))) 22 (.ref (a + 11))) 23 (.ref (a + 12))) 24 (.ref (a + 13))) 25 (.ref (a + 14))) 28 (.ref (a + 15))) 29 (.ref (a + 16))) 30 (.ref (a + 17))) 31 (.ref (a + 18))) 32 (.ref (a + 19))) 39 (.ref (a + 20))) 40 (.ref (a + 21))) 41 (.ref (a + 22))) 49 (.ref (a + 23))) 50 (.ref (a + 24))) 51 (.ref (a + 25))) = cellB b (9, 52) B d := by
  subst ha
  refine oc_ (by omega) (fun i => ?_)
  have h0 : ∀ i : Nat, ¬ False → (va_up (va_up (va_up (va_up (va_up (va_up (va_up (va_up (va_up (va_up (va_up (va_up (va_up (va_up (va_up (va_up (va_up (va_up (va_up (va_up (va_up (va_up (va_up (va_up (va_up (va_up (df9) 1 (.ref (b + d + 1))) 2 (.ref (b + d + 2))) 3 (.ref (b + d + 3))) 4 (.ref (b + d + 4))) 5 (.ref (b + d + 5))) 15 (.int (iI (-1)))) 16 (.ref (b + d + 6))) 17 (.ref (b + d + 7))) 18 (.ref (b + d + 8))) 19 (.ref (b + d + 9))) 21 (.ref (b + d + 10))) 22 (.ref (b + d + 11))) 23 (.ref (b + d + 12))) 24 (.ref (b + d + 13))) 25 (.ref (b + d + 14))) 28 (.ref (b + d + 15))) 29 (.ref (b + d + 16))) 30 (.ref (b + d + 17))) 31 (.ref (b + d + 18))) 32 (.ref (b + d + 19))) 39 (.ref (b + d + 20))) 40 (.ref (b + d + 21))) 41 (.ref (b + d + 22))) 49 (.ref (b + d + 23))) 50 (.ref (b + d + 24))) 51 (.ref (b + d + 25))) i = fv b 9 B d i := up_x (by show _ = Value.ref (b + (d + (35 - 10))); exact congrArg Value.ref (show (b + d + 25 : Nat) = b + (d + (35 - 10)) by omega)) (up_x (by show _ = Value.ref (b + (d + (34 - 10))); exact congrArg Value.ref (show (b + d + 24 : Nat) = b + (d + (34 - 10)) by omega)) (up_x (by show _ = Value.ref (b + (d + (33 - 10))); exact congrArg Value.ref (show (b + d + 23 : Nat) = b + (d + (33 - 10)) by omega)) (up_x (by show _ = Value.ref (b + (d + (32 - 10))); exact congrArg Value.ref (show (b + d + 22 : Nat) = b + (d + (32 - 10)) by omega)) (up_x (by show _ = Value.ref (b + (d + (31 - 10))); exact congrArg Value.ref (show (b + d + 21 : Nat) = b + (d + (31 - 10)) by omega)) (up_x (by show _ = Value.ref (b + (d + (30 - 10))); exact congrArg Value.ref (show (b + d + 20 : Nat) = b + (d + (30 - 10)) by omega)) (up_x (by show _ = Value.ref (b + (d + (29 - 10))); exact congrArg Value.ref (show (b + d + 19 : Nat) = b + (d + (29 - 10)) by omega)) (up_x (by show _ = Value.ref (b + (d + (28 - 10))); exact congrArg Value.ref (show (b + d + 18 : Nat) = b + (d + (28 - 10)) by omega)) (up_x (by show _ = Value.ref (b + (d + (27 - 10))); exact congrArg Value.ref (show (b + d + 17 : Nat) = b + (d + (27 - 10)) by omega)) (up_x (by show _ = Value.ref (b + (d + (26 - 10))); exact congrArg Value.ref (show (b + d + 16 : Nat) = b + (d + (26 - 10)) by omega)) (up_x (by show _ = Value.ref (b + (d + (25 - 10))); exact congrArg Value.ref (show (b + d + 15 : Nat) = b + (d + (25 - 10)) by omega)) (up_x (by show _ = Value.ref (b + (d + (24 - 10))); exact congrArg Value.ref (show (b + d + 14 : Nat) = b + (d + (24 - 10)) by omega)) (up_x (by show _ = Value.ref (b + (d + (23 - 10))); exact congrArg Value.ref (show (b + d + 13 : Nat) = b + (d + (23 - 10)) by omega)) (up_x (by show _ = Value.ref (b + (d + (22 - 10))); exact congrArg Value.ref (show (b + d + 12 : Nat) = b + (d + (22 - 10)) by omega)) (up_x (by show _ = Value.ref (b + (d + (21 - 10))); exact congrArg Value.ref (show (b + d + 11 : Nat) = b + (d + (21 - 10)) by omega)) (up_x (by show _ = Value.ref (b + (d + (20 - 10))); exact congrArg Value.ref (show (b + d + 10 : Nat) = b + (d + (20 - 10)) by omega)) (up_x (by show _ = Value.ref (b + (d + (19 - 10))); exact congrArg Value.ref (show (b + d + 9 : Nat) = b + (d + (19 - 10)) by omega)) (up_x (by show _ = Value.ref (b + (d + (18 - 10))); exact congrArg Value.ref (show (b + d + 8 : Nat) = b + (d + (18 - 10)) by omega)) (up_x (by show _ = Value.ref (b + (d + (17 - 10))); exact congrArg Value.ref (show (b + d + 7 : Nat) = b + (d + (17 - 10)) by omega)) (up_x (by show _ = Value.ref (b + (d + (16 - 10))); exact congrArg Value.ref (show (b + d + 6 : Nat) = b + (d + (16 - 10)) by omega)) (up_x (by show _ = Value.int (iI (B.1 d 15)); rw [h15]) (up_x (by show _ = Value.ref (b + (d + (15 - 10))); exact congrArg Value.ref (show (b + d + 5 : Nat) = b + (d + (15 - 10)) by omega)) (up_x (by show _ = Value.ref (b + (d + (14 - 10))); exact congrArg Value.ref (show (b + d + 4 : Nat) = b + (d + (14 - 10)) by omega)) (up_x (by show _ = Value.ref (b + (d + (13 - 10))); exact congrArg Value.ref (show (b + d + 3 : Nat) = b + (d + (13 - 10)) by omega)) (up_x (by show _ = Value.ref (b + (d + (12 - 10))); exact congrArg Value.ref (show (b + d + 2 : Nat) = b + (d + (12 - 10)) by omega)) (up_x (by show _ = Value.ref (b + (d + (11 - 10))); exact congrArg Value.ref (show (b + d + 1 : Nat) = b + (d + (11 - 10)) by omega)) (fun i h => by rw [fv_z (z i h).1 (z i h).2.1 (z i h).2.2]; exact bs9 i h))))))))))))))))))))))))))
  exact h0 i (fun h => h)

/-- noughts from cell c on, and the Roamer's rows there -/
def nB (B : Bk) (c : Nat) : Bk := (fun e j => if c ≤ e then (if e = c + 4 ∧ j = 6 then -1 else 0) else B.1 e j, fun e j => if c ≤ e then 0 else B.2.1 e j, fun e j => if c ≤ e then (if e = c + 6 ∧ j < 4 then some (c + 7 + 4 * j) else none) else B.2.2.1 e j, fun e z => if c ≤ e then 0 else B.2.2.2.1 e z, fun e z => if c ≤ e then 0 else B.2.2.2.2 e z)
section ROA
variable {a b c m : Nat} {B : Bk} {E : Ev} {n : Nat} {T : List (Nat × Nat)}
theorem nB_4 {e : Nat} (h : c ≤ e) (z : Int) : (nB B c).2.2.2.1 e z = 0 := if_pos h
theorem nB_5 {e : Nat} (h : c ≤ e) (z : Int) : (nB B c).2.2.2.2 e z = 0 := if_pos h
theorem nB_0 {e i : Nat} (h : c ≤ e) (h1 : ¬ (e = c + 4 ∧ i = 6)) (h2 : ¬ e = c + 6) : (nB B c).1 e i = 0 ∧ (nB B c).2.1 e i = 0 ∧ (nB B c).2.2.1 e i = none := by
  refine ⟨?_, if_pos h, ?_⟩
  · show (if c ≤ e then (if e = c + 4 ∧ i = 6 then (-1 : Int) else 0) else B.1 e i) = 0
    rw [if_pos h, if_neg h1]
  · show (if c ≤ e then (if e = c + 6 ∧ i < 4 then some (c + 7 + 4 * i) else none) else B.2.2.1 e i) = none
    rw [if_pos h, if_neg (fun w => h2 w.1)]
theorem nB_g : (nB B c).1 (c + 4) 6 = -1 := by
  show (if c ≤ c + 4 then (if c + 4 = c + 4 ∧ 6 = 6 then (-1 : Int) else 0) else B.1 (c + 4) 6) = -1
  rw [if_pos (by omega), if_pos ⟨rfl, rfl⟩]
theorem nB_r (i : Nat) : (nB B c).2.2.1 (c + 6) i = if i < 4 then some (c + 7 + 4 * i) else none := by
  show (if c ≤ c + 6 then (if c + 6 = c + 6 ∧ i < 4 then some (c + 7 + 4 * i) else none) else B.2.2.1 (c + 6) i) = _
  rw [if_pos (by omega)]
  simp only [true_and]

theorem r4_0 (ha : a = b + c) : ((4, 11, va_up (va_up (va_up (va_up (df4) 0 (.ref (a + 1))) 1 (.ref (a + 2))) 2 (.ref (a + 4))) 3 (.ref (a + 6))) : PC) = cellB b (4, 11) (nB B c) (c + 0) := oc4 (by omega) (fun i h => nB_0 (by omega) (by omega) (by omega))
theorem r4_1 (ha : a = b + c) : (zC 21 16000 (.long 0) : PC) = cellB b (21, 16000) (nB B c) (c + 1) := zc_l (nB_5 (by omega))
theorem r4_2 (ha : a = b + c) : ((0, 2, va_up (df0) 0 (.ref (a + 2 + 1))) : PC) = cellB b (0, 2) (nB B c) (c + 2) := oc0 (by omega) (fun i h => nB_0 (by omega) (by omega) (by omega))
theorem r4_3 (ha : a = b + c) : (zC 21 5 (.long 0) : PC) = cellB b (21, 5) (nB B c) (c + 3) := zc_l (nB_5 (by omega))
theorem r4_4 (ha : a = b + c) : ((1, 10, va_up (va_up (df1) 0 (.ref (a + 4 + 1))) 6 (.int (iI (-1)))) : PC) = cellB b (1, 10) (nB B c) (c + 4) := oc1 (by omega) (fun i h => nB_0 (by omega) (fun w => h (Or.inl (Or.inr w.2))) (by omega)) nB_g
theorem r4_5 (ha : a = b + c) : (zC 20 24 (.int 0) : PC) = cellB b (20, 24) (nB B c) (c + 5) := zc_i (by decide) (nB_4 (by omega))
theorem r4_6 (ha : a = b + c) : ((26, 4, va_up (va_up (va_up (va_up (fun _ => .null) 0 (.ref (a + 7))) 1 (.ref (a + 11))) 2 (.ref (a + 15))) 3 (.ref (a + 19))) : PC) = cellB b (26, 4) (nB B c) (c + 6) := rc_ (by omega) (fun j => by
  subst ha
  rw [nB_r]
  unfold va_up
  by_cases h3 : j = 3
  · subst h3; rw [if_pos rfl, if_pos (by omega)]; exact congrArg Value.ref (show (b + c + 19 : Nat) = b + (c + 7 + 4 * 3) by omega)
  · by_cases h2 : j = 2
    · subst h2; rw [if_neg (by omega), if_pos rfl, if_pos (by omega)]; exact congrArg Value.ref (show (b + c + 15 : Nat) = b + (c + 7 + 4 * 2) by omega)
    · by_cases h1 : j = 1
      · subst h1; rw [if_neg (by omega), if_neg (by omega), if_pos rfl, if_pos (by omega)]; exact congrArg Value.ref (show (b + c + 11 : Nat) = b + (c + 7 + 4 * 1) by omega)
      · by_cases h0 : j = 0
        · subst h0; rw [if_neg (by omega), if_neg (by omega), if_neg (by omega), if_pos rfl, if_pos (by omega)]; exact congrArg Value.ref (show (b + c + 7 : Nat) = b + (c + 7 + 4 * 0) by omega)
        · rw [if_neg h3, if_neg h2, if_neg h1, if_neg h0, if_neg (by omega)]; rfl)
theorem r4_7 (ha : a = b + c) : ((2, 5, va_up (va_up (va_up (df2) 0 (.ref (a + 7 + 1))) 1 (.ref (a + 7 + 2))) 2 (.ref (a + 7 + 3))) : PC) = cellB b (2, 5) (nB B c) (c + 7) := oc2 (by omega) (fun i h => nB_0 (by omega) (by omega) (by omega))
theorem r4_8 (ha : a = b + c) : (zC 21 1200 (.long 0) : PC) = cellB b (21, 1200) (nB B c) (c + 8) := zc_l (nB_5 (by omega))
theorem r4_9 (ha : a = b + c) : (zC 20 32 (.int 0) : PC) = cellB b (20, 32) (nB B c) (c + 9) := zc_i (by decide) (nB_4 (by omega))
theorem r4_10 (ha : a = b + c) : (zC 20 32 (.int 0) : PC) = cellB b (20, 32) (nB B c) (c + 10) := zc_i (by decide) (nB_4 (by omega))
theorem r4_11 (ha : a = b + c) : ((2, 5, va_up (va_up (va_up (df2) 0 (.ref (a + 11 + 1))) 1 (.ref (a + 11 + 2))) 2 (.ref (a + 11 + 3))) : PC) = cellB b (2, 5) (nB B c) (c + 11) := oc2 (by omega) (fun i h => nB_0 (by omega) (by omega) (by omega))
theorem r4_12 (ha : a = b + c) : (zC 21 1200 (.long 0) : PC) = cellB b (21, 1200) (nB B c) (c + 12) := zc_l (nB_5 (by omega))
theorem r4_13 (ha : a = b + c) : (zC 20 32 (.int 0) : PC) = cellB b (20, 32) (nB B c) (c + 13) := zc_i (by decide) (nB_4 (by omega))
theorem r4_14 (ha : a = b + c) : (zC 20 32 (.int 0) : PC) = cellB b (20, 32) (nB B c) (c + 14) := zc_i (by decide) (nB_4 (by omega))
theorem r4_15 (ha : a = b + c) : ((2, 5, va_up (va_up (va_up (df2) 0 (.ref (a + 15 + 1))) 1 (.ref (a + 15 + 2))) 2 (.ref (a + 15 + 3))) : PC) = cellB b (2, 5) (nB B c) (c + 15) := oc2 (by omega) (fun i h => nB_0 (by omega) (by omega) (by omega))
theorem r4_16 (ha : a = b + c) : (zC 21 1200 (.long 0) : PC) = cellB b (21, 1200) (nB B c) (c + 16) := zc_l (nB_5 (by omega))
theorem r4_17 (ha : a = b + c) : (zC 20 32 (.int 0) : PC) = cellB b (20, 32) (nB B c) (c + 17) := zc_i (by decide) (nB_4 (by omega))
theorem r4_18 (ha : a = b + c) : (zC 20 32 (.int 0) : PC) = cellB b (20, 32) (nB B c) (c + 18) := zc_i (by decide) (nB_4 (by omega))
theorem r4_19 (ha : a = b + c) : ((2, 5, va_up (va_up (va_up (df2) 0 (.ref (a + 19 + 1))) 1 (.ref (a + 19 + 2))) 2 (.ref (a + 19 + 3))) : PC) = cellB b (2, 5) (nB B c) (c + 19) := oc2 (by omega) (fun i h => nB_0 (by omega) (by omega) (by omega))
theorem r4_20 (ha : a = b + c) : (zC 21 1200 (.long 0) : PC) = cellB b (21, 1200) (nB B c) (c + 20) := zc_l (nB_5 (by omega))
theorem r4_21 (ha : a = b + c) : (zC 20 32 (.int 0) : PC) = cellB b (20, 32) (nB B c) (c + 21) := zc_i (by decide) (nB_4 (by omega))
theorem r4_22 (ha : a = b + c) : (zC 20 32 (.int 0) : PC) = cellB b (20, 32) (nB B c) (c + 22) := zc_i (by decide) (nB_4 (by omega))
theorem r4_L (ha : a = b + c) : ([(4, 11, va_up (va_up (va_up (va_up (df4) 0 (.ref (a + 1))) 1 (.ref (a + 2))) 2 (.ref (a + 4))) 3 (.ref (a + 6))), zC 21 16000 (.long 0), (0, 2, va_up (df0) 0 (.ref (a + 2 + 1))), zC 21 5 (.long 0), (1, 10, va_up (va_up (df1) 0 (.ref (a + 4 + 1))) 6 (.int (iI (-1)))), zC 20 24 (.int 0), (26, 4, va_up (va_up (va_up (va_up (fun _ => .null) 0 (.ref (a + 7))) 1 (.ref (a + 11))) 2 (.ref (a + 15))) 3 (.ref (a + 19))), (2, 5, va_up (va_up (va_up (df2) 0 (.ref (a + 7 + 1))) 1 (.ref (a + 7 + 2))) 2 (.ref (a + 7 + 3))), zC 21 1200 (.long 0), zC 20 32 (.int 0), zC 20 32 (.int 0), (2, 5, va_up (va_up (va_up (df2) 0 (.ref (a + 11 + 1))) 1 (.ref (a + 11 + 2))) 2 (.ref (a + 11 + 3))), zC 21 1200 (.long 0), zC 20 32 (.int 0), zC 20 32 (.int 0), (2, 5, va_up (va_up (va_up (df2) 0 (.ref (a + 15 + 1))) 1 (.ref (a + 15 + 2))) 2 (.ref (a + 15 + 3))), zC 21 1200 (.long 0), zC 20 32 (.int 0), zC 20 32 (.int 0), (2, 5, va_up (va_up (va_up (df2) 0 (.ref (a + 19 + 1))) 1 (.ref (a + 19 + 2))) 2 (.ref (a + 19 + 3))), zC 21 1200 (.long 0), zC 20 32 (.int 0), zC 20 32 (.int 0)] : List PC) = clz b (nB B c) c TR := cls_c (r4_0 ha) (cls_c (r4_1 ha) (cls_c (r4_2 ha) (cls_c (r4_3 ha) (cls_c (r4_4 ha) (cls_c (r4_5 ha) (cls_c (r4_6 ha) (cls_c (r4_7 ha) (cls_c (r4_8 ha) (cls_c (r4_9 ha) (cls_c (r4_10 ha) (cls_c (r4_11 ha) (cls_c (r4_12 ha) (cls_c (r4_13 ha) (cls_c (r4_14 ha) (cls_c (r4_15 ha) (cls_c (r4_16 ha) (cls_c (r4_17 ha) (cls_c (r4_18 ha) (cls_c (r4_19 ha) (cls_c (r4_20 ha) (cls_c (r4_21 ha) (cls_c (r4_22 ha) (rfl)))))))))))))))))))))))
theorem nB_9 {x : Nat} : (wR (nB B c) co 9 (some x)).2.2.1 co 9 = some x := by
  show (if co = co ∧ 9 = 9 then some x else (nB B c).2.2.1 co 9) = some x
  rw [if_pos ⟨rfl, rfl⟩]
theorem En_x : Ex E (En E m T) := ⟨rfl, rfl, Nat.le_add_right _ _, fun d hd => if_pos hd⟩
theorem En_KD {d i t k : Nat} (hd : d = E.2.2.2.1 + i) (hi : i < T.length) (h : T.getD i (99, 0) = (t, k)) : KD (En E m T) d t k := by
  subst hd
  refine ⟨by show _ < E.2.2.2.1 + T.length; omega, ?_⟩
  show (if E.2.2.2.1 + i < E.2.2.2.1 then E.2.2.1 (E.2.2.2.1 + i) else T.getD (E.2.2.2.1 + i - E.2.2.2.1) (99, 0)) = _
  rw [if_neg (by omega), Nat.add_sub_cancel_left, h]
theorem roam_new (rc : KD E co 8 13) (f9 : B.2.2.1 co 9 = none) : fX8_roaming (E.1 + co) (St E B) = some (E.1 + E.2.2.2.1, St (En E 21132 TR) (wR (nB B E.2.2.2.1) co 9 (some E.2.2.2.1))) := by
  have e0 : St E B = RH (E.1 + E.2.2.2.1) (St E B).2.2 (E.2.2.2.2 + 0) [] := by
    rw [← Rw_RH]
    exact Rw_0
  have e1 : mk (St E B) (4, 11, df4) = RH (E.1 + E.2.2.2.1) (St E B).2.2 (E.2.2.2.2 + 0 + 11) [(4, 11, df4)] := (congrArg (fun s => mk s (4, 11, df4)) e0).trans RH_mk
  have e2 := j4_ (a := E.1 + E.2.2.2.1) (P := (St E B).2.2) (m := E.2.2.2.2 + 0 + 11)
  have e3 : RH (E.1 + E.2.2.2.1) (St E B).2.2 (E.2.2.2.2 + 0 + 11 + 21121) (clz E.1 (nB B E.2.2.2.1) E.2.2.2.1 TR) = St (En E 21132 TR) (nB B E.2.2.2.1) := by
    rw [show E.2.2.2.2 + 0 + 11 + 21121 = E.2.2.2.2 + 21132 by omega, ← Rw_RH]
    refine Rw_St (T := TR) (cls_n TR _).symm (fun i hi => cls_at TR _ i (by rw [cls_n] at hi; exact hi)) (fun e he => ?_)
    have n1 : ∀ j, (nB B E.2.2.2.1).1 e j = B.1 e j := fun j => if_neg (by omega)
    have n2 : ∀ j, (nB B E.2.2.2.1).2.1 e j = B.2.1 e j := fun j => if_neg (by omega)
    have n3 : ∀ j, (nB B E.2.2.2.1).2.2.1 e j = B.2.2.1 e j := fun j => if_neg (by omega)
    have n4 : ∀ j, (nB B E.2.2.2.1).2.2.2.1 e j = B.2.2.2.1 e j := fun j => if_neg (by omega)
    have n5 : ∀ j, (nB B E.2.2.2.1).2.2.2.2 e j = B.2.2.2.2 e j := fun j => if_neg (by omega)
    unfold cellB fv
    simp only [n1, n2, n3, n4, n5]
  rw [r4_L (b := E.1) (c := E.2.2.2.1) (B := B) rfl, e3] at e2
  unfold fX8_roaming
  rw [c8 rc, some_bind, n8_9 rc, some_bind, f9]
  refine lt_of e1 (bind_of e2 ?_)
  refine bind_of (p8_9 (E := En E 21132 TR) (B := nB B E.2.2.2.1) (d := co) (x := E.2.2.2.1) (KD_x En_x rc)) ?_
  unfold fX8_roaming_b18
  exact bind_of (g8_9 (E := En E 21132 TR) (B := wR (nB B E.2.2.2.1) co 9 (some E.2.2.2.1)) (d := co) (KD_x En_x rc) (e := E.2.2.2.1) nB_9) rfl
/-- the Roamer as it is made: all that questions need -/
theorem roam_RQ (R : RV E B n) (h20 : 20 ≤ n) (hn : n < 50) (hc : 84 ≤ E.2.2.2.1) (he : 1 ≤ B.1 co 12 ∧ B.1 co 12 < 2147483648) : RQ (En E 21132 TR) (wR (nB B E.2.2.2.1) co 9 (some E.2.2.2.1)) n E.2.2.2.1 := by
  have hco : co = 0 := rfl
  have hmo : mo = 58 := rfl
  have n1 : ∀ e j, e < E.2.2.2.1 → (wR (nB B E.2.2.2.1) co 9 (some E.2.2.2.1)).1 e j = B.1 e j := fun e j h => if_neg (by omega)
  have n4 : ∀ e z, e < E.2.2.2.1 → (wR (nB B E.2.2.2.1) co 9 (some E.2.2.2.1)).2.2.2.1 e z = B.2.2.2.1 e z := fun e z h => if_neg (by omega)
  have n3 : ∀ e j, e < E.2.2.2.1 → ¬ (e = co ∧ j = 9) → (wR (nB B E.2.2.2.1) co 9 (some E.2.2.2.1)).2.2.1 e j = B.2.2.1 e j := fun e j h q => by
    show (if e = co ∧ j = 9 then some E.2.2.2.1 else (nB B E.2.2.2.1).2.2.1 e j) = _
    rw [if_neg q]
    exact if_neg (by omega)
  have z1 : ∀ e j, E.2.2.2.1 ≤ e → ¬ (e = E.2.2.2.1 + 4 ∧ j = 6) → (wR (nB B E.2.2.2.1) co 9 (some E.2.2.2.1)).1 e j = 0 := fun e j h q => by
    show (if E.2.2.2.1 ≤ e then (if e = E.2.2.2.1 + 4 ∧ j = 6 then (-1 : Int) else 0) else B.1 e j) = 0
    rw [if_pos h, if_neg q]
  refine ⟨RV_x En_x (rv_to h20 R ((n3 co 7 (by omega) (by omega)).trans R.1.2.1) (fun j => n1 n j (by omega)) (fun k z k0 k1 => n4 k z (by omega)) (n4 _ _ (by omega)) (fun z _ _ => n4 _ _ (by omega)) (fun z _ _ => n4 _ _ (by omega)) (fun z _ _ => n4 _ _ (by omega)) (fun z _ _ => n4 _ _ (by omega)) (fun z _ _ => n4 _ _ (by omega)) (fun z _ _ => n4 _ _ (by omega))), ⟨hn, hc⟩, by rw [n1 co 12 (by omega)]; exact he, nB_9, ?_, ?_⟩
  · refine ⟨⟨En_KD (i := 0) (by omega) (by decide) rfl, En_KD (i := 1) (by omega) (by decide) rfl, En_KD (i := 2) (by omega) (by decide) rfl, En_KD (i := 3) (by omega) (by decide) rfl⟩, ⟨En_KD (i := 4) (by omega) (by decide) rfl, En_KD (i := 5) (by omega) (by decide) rfl, En_KD (i := 6) (by omega) (by decide) rfl⟩, fun q hq => ?_⟩
    rcases (show q = 0 ∨ q = 1 ∨ q = 2 ∨ q = 3 by omega) with rfl | rfl | rfl | rfl
    · exact ⟨En_KD (i := 7) (by omega) (by decide) rfl, En_KD (i := 8) (by omega) (by decide) rfl, En_KD (i := 9) (by omega) (by decide) rfl, En_KD (i := 10) (by omega) (by decide) rfl⟩
    · exact ⟨En_KD (i := 11) (by omega) (by decide) rfl, En_KD (i := 12) (by omega) (by decide) rfl, En_KD (i := 13) (by omega) (by decide) rfl, En_KD (i := 14) (by omega) (by decide) rfl⟩
    · exact ⟨En_KD (i := 15) (by omega) (by decide) rfl, En_KD (i := 16) (by omega) (by decide) rfl, En_KD (i := 17) (by omega) (by decide) rfl, En_KD (i := 18) (by omega) (by decide) rfl⟩
    · exact ⟨En_KD (i := 19) (by omega) (by decide) rfl, En_KD (i := 20) (by omega) (by decide) rfl, En_KD (i := 21) (by omega) (by decide) rfl, En_KD (i := 22) (by omega) (by decide) rfl⟩
  · have ec : (wR (nB B E.2.2.2.1) co 9 (some E.2.2.2.1)).1 co 12 = B.1 co 12 := n1 co 12 (by omega)
    have g6 : (wR (nB B E.2.2.2.1) co 9 (some E.2.2.2.1)).1 (E.2.2.2.1 + 4) 6 = -1 := nB_g
    refine ⟨fun q hq => ?_, fun q hq => ?_, fun q hq h => ?_, fun q hq h => ?_, ?_, ⟨?_, ?_, ?_, ?_⟩, fun h => ?_⟩
    · show (if E.2.2.2.1 + 6 = co ∧ q = 9 then some E.2.2.2.1 else (nB B E.2.2.2.1).2.2.1 (E.2.2.2.1 + 6) q) = _
      rw [if_neg (by omega), nB_r, if_pos hq]
    · rw [ec, z1 _ _ (by omega) (by omega), z1 _ _ (by omega) (by omega)]
      omega
    · rw [ec, z1 _ _ (by omega) (by omega)] at h
      omega
    · rw [ec, z1 _ _ (by omega) (by omega)] at h
      omega
    · rw [ec, z1 _ _ (by omega) (by omega)]
      omega
    · rw [z1 _ _ (by omega) (by omega)]
      exact ⟨by omega, by omega⟩
    · rw [z1 _ _ (by omega) (by omega)]
      exact ⟨by omega, by omega⟩
    · rw [g6]
      omega
    · rw [g6]
      omega
    · rw [ec, z1 _ _ (by omega) (by omega)] at h
      omega
end ROA
