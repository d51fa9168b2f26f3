/-! the cells by their places behind the first address: kinds and sizes (T), what they hold (B) (written by gen/heap2.py) -/
def ftL : List (List Nat) := [[11, 1], [11, 2, 2, 2, 0, 0, 0, 0, 0, 0], [11, 12, 13, 0, 0], [0, 0, 2, 0, 0, 0, 0, 0, 0, 2], [11, 12, 14, 16, 2, 2, 0, 0, 0, 0, 0], [11, 0, 0], [0, 0, 0, 0, 0, 0, 0, 0, 0, 0, 0, 0, 0, 0, 11, 12, 13, 14, 15], [11, 12, 13, 14, 15, 16, 2, 1, 0], [11, 12, 13, 20, 27, 28, 29, 2, 2, 2, 0, 0, 0], [0, 11, 12, 13, 14, 15, 0, 0, 0, 0, 0, 1, 0, 0, 0, 0, 16, 17, 18, 19, 0, 20, 21, 22, 23, 24, 0, 0, 25, 26, 27, 28, 29, 0, 0, 0, 0, 0, 0, 30, 31, 32, 0, 0, 0, 0, 0, 0, 0, 33, 34, 35]]
def ft (ci j : Nat) : Nat := (ftL.getD ci []).getD j 0
def TS : List (Nat × Nat) := [(8, 13), (22, 1600), (3, 10), (7, 9), (20, 700), (20, 125), (20, 96), (23, 96), (20, 96), (23, 5), (7, 9), (20, 700), (20, 125), (20, 96), (23, 96), (20, 96), (23, 5), (24, 3), (23, 3), (25, 4), (6, 19), (20, 120), (20, 24), (20, 15), (20, 96), (20, 240), (6, 19), (20, 120), (20, 24), (20, 15), (20, 96), (20, 240), (6, 19), (20, 120), (20, 24), (20, 15), (20, 96), (20, 240), (6, 19), (20, 120), (20, 24), (20, 15), (20, 96), (20, 240), (6, 19), (20, 120), (20, 24), (20, 15), (20, 96), (20, 240), (5, 3), (21, 60), (5, 3), (21, 60), (5, 3), (21, 60), (5, 3), (21, 60), (9, 52), (20, 4), (20, 4), (21, 240), (21, 60), (22, 1600), (20, 5), (20, 75), (20, 600), (20, 120), (20, 120), (20, 75), (20, 480), (20, 1200), (23, 3), (20, 700), (20, 96), (23, 96), (20, 96), (20, 5), (23, 120), (21, 16000), (21, 16000), (21, 32000), (21, 32000), (23, 7680)]
def TR : List (Nat × Nat) := [(4, 11), (21, 16000), (0, 2), (21, 5), (1, 10), (20, 24), (26, 4), (2, 5), (21, 1200), (20, 32), (20, 32), (2, 5), (21, 1200), (20, 32), (20, 32), (2, 5), (21, 1200), (20, 32), (20, 32), (2, 5), (21, 1200), (20, 32), (20, 32)]
abbrev Bk : Type := (Nat → Nat → Int) × (Nat → Nat → Int64) × (Nat → Nat → Option Nat) × (Nat → Int → Int) × (Nat → Int → Int64)
def fv (b ci : Nat) (B : Bk) (d j : Nat) : Value := if ft ci j = 0 then .int (iI (B.1 d j)) else if ft ci j = 1 then .long (B.2.1 d j) else if ft ci j = 2 then va_rf ((B.2.2.1 d j).map (b + ·)) else .ref (b + (d + (ft ci j - 10)))
def cellB (b : Nat) (t : Nat × Nat) (B : Bk) (d : Nat) : PC :=
  if t.1 < 20 then (t.1, t.2, fun j => fv b t.1 B d j) else if t.1 = 21 then (t.1, t.2, fun k => .long (B.2.2.2.2 d (k : Int))) else if t.1 < 24 then (t.1, t.2, fun k => .int (iI (B.2.2.2.1 d (k : Int)))) else (t.1, t.2, fun k => va_rf ((B.2.2.1 d k).map (b + ·)))
/-- first address and what lies ahead of it; kinds; how many cells; slots made -/
abbrev Ev : Type := Nat × (Nat → PC) × (Nat → Nat × Nat) × Nat × Nat
def St (E : Ev) (B : Bk) : Hp := (E.1 + E.2.2.2.1, E.2.2.2.2, fun x => if x < E.1 then E.2.1 x else if x < E.1 + E.2.2.2.1 then cellB E.1 (E.2.2.1 (x - E.1)) B (x - E.1) else (99, 0, fun _ => .null))
def up2 {α : Type} (f : Nat → Nat → α) (d j : Nat) (v : α) : Nat → Nat → α := fun d' j' => if d' = d ∧ j' = j then v else f d' j'
def upA {α : Type} (f : Nat → Int → α) (d : Nat) (z : Int) (v : α) : Nat → Int → α := fun d' z' => if d' = d ∧ z' = z then v else f d' z'
def wI (B : Bk) (d j : Nat) (x : Int) : Bk := (up2 B.1 d j x, B.2)
def wL (B : Bk) (d j : Nat) (x : Int64) : Bk := (B.1, up2 B.2.1 d j x, B.2.2)
def wR (B : Bk) (d j : Nat) (x : Option Nat) : Bk := (B.1, B.2.1, up2 B.2.2.1 d j x, B.2.2.2)
def wA (B : Bk) (d : Nat) (z x : Int) : Bk := (B.1, B.2.1, B.2.2.1, upA B.2.2.2.1 d z x, B.2.2.2.2)
def wJ (B : Bk) (d : Nat) (z : Int) (x : Int64) : Bk := (B.1, B.2.1, B.2.2.1, B.2.2.2.1, upA B.2.2.2.2 d z x)
section H2
variable {E : Ev} {B : Bk} {d : Nat}
theorem St_at (h : d < E.2.2.2.1) : (St E B).2.2 (E.1 + d) = cellB E.1 (E.2.2.1 d) B d := by
  unfold St
  simp only
  rw [if_neg (by omega), if_pos (by omega), Nat.add_sub_cancel_left]
theorem cellB_1 {b : Nat} {t : Nat × Nat} : (cellB b t B d).1 = t.1 := by
  unfold cellB
  split
  · rfl
  · split
    · rfl
    · split <;> rfl
theorem cellB_2 {b : Nat} {t : Nat × Nat} : (cellB b t B d).2.1 = t.2 := by
  unfold cellB
  split
  · rfl
  · split
    · rfl
    · split <;> rfl
theorem cellB_o {b : Nat} {t : Nat × Nat} (h : t.1 < 20) (j : Nat) : (cellB b t B d).2.2 j = fv b t.1 B d j := by unfold cellB; rw [if_pos h]
theorem cellB_l {b : Nat} {t : Nat × Nat} (h : t.1 = 21) (k : Nat) : (cellB b t B d).2.2 k = .long (B.2.2.2.2 d (k : Int)) := by unfold cellB; rw [if_neg (by omega), if_pos h]
theorem cellB_i {b : Nat} {t : Nat × Nat} (h : t.1 = 20 ∨ t.1 = 22 ∨ t.1 = 23) (k : Nat) : (cellB b t B d).2.2 k = .int (iI (B.2.2.2.1 d (k : Int))) := by unfold cellB; rw [if_neg (by omega), if_neg (by omega), if_pos (by omega)]
theorem cellB_r {b : Nat} {t : Nat × Nat} (h : 24 ≤ t.1) (k : Nat) : (cellB b t B d).2.2 k = va_rf ((B.2.2.1 d k).map (b + ·)) := by unfold cellB; rw [if_neg (by omega), if_neg (by omega), if_neg (by omega)]
/-- a cell is changed: what it holds changes, and nothing else -/
theorem St_cu {B' : Bk} {c : PC} (h : d < E.2.2.2.1) (hc : c = cellB E.1 (E.2.2.1 d) B' d) (ho : ∀ e, e ≠ d → cellB E.1 (E.2.2.1 e) B' e = cellB E.1 (E.2.2.1 e) B e) : cu (St E B) (E.1 + d) c = St E B' := by
  unfold cu St
  simp only
  congr 2
  funext x
  unfold va_up
  by_cases hx : x = E.1 + d
  · subst hx
    rw [if_pos rfl, if_neg (by omega), if_pos (by omega), Nat.add_sub_cancel_left, hc]
  · rw [if_neg hx]
    dsimp only
    by_cases h1 : x < E.1
    · rw [if_pos h1, if_pos h1]
    · rw [if_neg h1, if_neg h1]
      by_cases h2 : x < E.1 + E.2.2.2.1
      · rw [if_pos h2, if_pos h2, ho (x - E.1) (by omega)]
      · rw [if_neg h2, if_neg h2]
theorem iI_cl {z : Int} {n : Nat} (h0 : 0 ≤ z) (h1 : z < n) (hn : n ≤ 2147483647) : ¬ (iI z < 0 ∨ n ≤ (iI z).toNatClampNeg) ∧ ((iI z).toNatClampNeg : Int) = z := by
  have e : (iI z).toInt = z := Int32.toInt_ofInt_of_le (by show (-2147483648 : Int) ≤ z; omega) (by show z < 2147483648; omega)
  have e2 : (iI z).toNatClampNeg = z.toNat := by show (iI z).toInt.toNat = _; rw [e]
  refine ⟨fun hh => ?_, by rw [e2]; omega⟩
  rcases hh with hh | hh
  · rw [Int32.lt_iff_toInt_lt, e, Int32.toInt_zero] at hh
    omega
  · rw [e2] at hh
    omega
/-- kinds of cells stand -/
def KD (E : Ev) (d ci n : Nat) : Prop := d < E.2.2.2.1 ∧ E.2.2.1 d = (ci, n)
theorem ck_ok {ci n : Nat} (h : KD E d ci n) : ck (St E B) (E.1 + d) ci = some () := by
  unfold ck
  rw [St_at h.1, cellB_1, h.2, if_pos rfl]
theorem gtV_ok {ci n j : Nat} (h : KD E d ci n) (hc : ci < 20) (hj : j < n) : gtV (St E B) (E.1 + d) ci j = some (fv E.1 ci B d j) := by
  unfold gtV
  rw [St_at h.1, cellB_1, cellB_2, h.2, if_pos ⟨rfl, hj⟩, cellB_o hc]
theorem gI_ok {ci n j : Nat} (h : KD E d ci n) (hc : ci < 20) (hj : j < n) (hf : ft ci j = 0) : gI (St E B) (E.1 + d) ci j = some (iI (B.1 d j)) := by
  unfold gI
  rw [gtV_ok h hc hj]
  simp [fv, hf, vI]
theorem gL_ok {ci n j : Nat} (h : KD E d ci n) (hc : ci < 20) (hj : j < n) (hf : ft ci j = 1) : gL (St E B) (E.1 + d) ci j = some (B.2.1 d j) := by
  unfold gL
  rw [gtV_ok h hc hj]
  simp [fv, hf, vL]
theorem gR_own {ci n j : Nat} (h : KD E d ci n) (hc : ci < 20) (hj : j < n) (k : Nat) (hf : ft ci j = 10 + k) : gR (St E B) (E.1 + d) ci j = some (E.1 + (d + k)) := by
  unfold gR
  rw [gtV_ok h hc hj]
  have h0 : ¬ (10 + k = 0) := by omega
  have h1 : ¬ (10 + k = 1) := by omega
  have h2 : ¬ (10 + k = 2) := by omega
  simp [fv, hf, vR, h0, h1, h2]
theorem gR_var {ci n j e : Nat} (h : KD E d ci n) (hc : ci < 20) (hj : j < n) (hf : ft ci j = 2) (he : B.2.2.1 d j = some e) : gR (St E B) (E.1 + d) ci j = some (E.1 + e) := by
  unfold gR
  rw [gtV_ok h hc hj]
  simp [fv, hf, vR, he, va_rf]
theorem gO_var {ci n j : Nat} (h : KD E d ci n) (hc : ci < 20) (hj : j < n) (hf : ft ci j = 2) : gO (St E B) (E.1 + d) ci j = some ((B.2.2.1 d j).map (E.1 + ·)) := by
  unfold gO
  rw [gtV_ok h hc hj]
  cases he : B.2.2.1 d j <;> simp [fv, hf, vN, he, va_rf]
theorem fv_wI {b ci d' j j' : Nat} {x : Int} (hf : ft ci j = 0) : fv b ci (wI B d j x) d' j' = if d' = d ∧ j' = j then .int (iI x) else fv b ci B d' j' := by
  by_cases hh : d' = d ∧ j' = j
  · obtain ⟨rfl, rfl⟩ := hh
    simp [fv, hf, wI, up2]
  · simp [fv, wI, up2, hh]
theorem fv_wL {b ci d' j j' : Nat} {x : Int64} (hf : ft ci j = 1) : fv b ci (wL B d j x) d' j' = if d' = d ∧ j' = j then .long x else fv b ci B d' j' := by
  by_cases hh : d' = d ∧ j' = j
  · obtain ⟨rfl, rfl⟩ := hh
    simp [fv, hf, wL, up2]
  · simp [fv, wL, up2, hh]
theorem fv_wR {b ci d' j j' : Nat} {x : Option Nat} (hf : ft ci j = 2) : fv b ci (wR B d j x) d' j' = if d' = d ∧ j' = j then va_rf (x.map (b + ·)) else fv b ci B d' j' := by
  by_cases hh : d' = d ∧ j' = j
  · obtain ⟨rfl, rfl⟩ := hh
    simp [fv, hf, wR, up2]
  · simp [fv, wR, up2, hh]
theorem ptV_ok {ci n j : Nat} {v : Value} {B' : Bk} (h : KD E d ci n) (hc : ci < 20) (hj : j < n) (hv : ∀ j', fv E.1 ci B' d j' = if j' = j then v else fv E.1 ci B d j') (ho : ∀ e, e ≠ d → cellB E.1 (E.2.2.1 e) B' e = cellB E.1 (E.2.2.1 e) B e) : ptV (St E B) (E.1 + d) ci j v = some (St E B') := by
  unfold ptV
  rw [St_at h.1, cellB_1, cellB_2, h.2, if_pos ⟨rfl, hj⟩]
  congr 1
  unfold wr
  refine St_cu h.1 ?_ ho
  rw [St_at h.1, h.2]
  unfold cellB
  rw [if_pos hc, if_pos hc]
  congr 2
  funext j'
  rw [hv j']
  unfold va_up
  split <;> rfl
theorem pI_ok {ci n j : Nat} {x : Int} (h : KD E d ci n) (hc : ci < 20) (hj : j < n) (hf : ft ci j = 0) : pI (St E B) (E.1 + d) ci j (iI x) = some (St E (wI B d j x)) := by
  refine ptV_ok h hc hj (fun j' => ?_) (fun e he => ?_)
  · rw [fv_wI hf]
    simp
  · unfold cellB
    simp only [wI]
    split
    · congr 2
      funext j'
      simp [fv, up2, he]
    · rfl
theorem pZ_ok {ci n j : Nat} {x : Int} (h : KD E d ci n) (hc : ci < 20) (hj : j < n) (hf : ft ci j = 0) (hx : x = 0 ∨ x = 1) : pZ (St E B) (E.1 + d) ci j (iI x) = some (St E (wI B d j x)) := by
  unfold pZ
  rw [if_pos (by rcases hx with rfl | rfl <;> decide)]
  exact pI_ok h hc hj hf
theorem pL_ok {ci n j : Nat} {x : Int64} (h : KD E d ci n) (hc : ci < 20) (hj : j < n) (hf : ft ci j = 1) : pL (St E B) (E.1 + d) ci j x = some (St E (wL B d j x)) := by
  refine ptV_ok h hc hj (fun j' => ?_) (fun e he => ?_)
  · rw [fv_wL hf]
    simp
  · unfold cellB
    simp only [wL]
    split
    · congr 2
      funext j'
      simp [fv, up2, he]
    · rfl
theorem pR_ok {ci n j x : Nat} (h : KD E d ci n) (hc : ci < 20) (hj : j < n) (hf : ft ci j = 2) : pR (St E B) (E.1 + d) ci j (E.1 + x) = some (St E (wR B d j (some x))) := by
  refine ptV_ok h hc hj (fun j' => ?_) (fun e he => ?_)
  · rw [fv_wR hf]
    simp [va_rf]
  · unfold cellB
    simp only [wR]
    split
    · congr 2
      funext j'
      simp [fv, up2, he]
    · split
      · rfl
      · split
        · rfl
        · congr 2
          funext j'
          simp [up2, he]
theorem atV_ok {t n : Nat} {z : Int} (h : KD E d t n) (h0 : 0 ≤ z) (h1 : z < n) (hn : n ≤ 2147483647) : atV (St E B) t (E.1 + d) (iI z) = some ((cellB E.1 (t, n) B d).2.2 (iI z).toNatClampNeg) := by
  unfold atV
  rw [St_at h.1, cellB_1, cellB_2, h.2, if_pos ⟨rfl, (iI_cl h0 h1 hn).1⟩]
theorem aI_ok {n : Nat} {z : Int} (h : KD E d 20 n) (h0 : 0 ≤ z) (h1 : z < n) (hn : n ≤ 2147483647) : aI (St E B) (E.1 + d) (iI z) = some (iI (B.2.2.2.1 d z)) := by
  unfold aI
  rw [atV_ok h h0 h1 hn, cellB_i (Or.inl rfl), (iI_cl h0 h1 hn).2]
  rfl
theorem aB_ok {n : Nat} {z : Int} (h : KD E d 22 n) (h0 : 0 ≤ z) (h1 : z < n) (hn : n ≤ 2147483647) : aB (St E B) (E.1 + d) (iI z) = some (iI (B.2.2.2.1 d z)) := by
  unfold aB
  rw [atV_ok h h0 h1 hn, cellB_i (Or.inr (Or.inl rfl)), (iI_cl h0 h1 hn).2]
  rfl
theorem aZ_ok {n : Nat} {z : Int} (h : KD E d 23 n) (h0 : 0 ≤ z) (h1 : z < n) (hn : n ≤ 2147483647) : aZ (St E B) (E.1 + d) (iI z) = some (iI (B.2.2.2.1 d z)) := by
  unfold aZ
  rw [atV_ok h h0 h1 hn, cellB_i (Or.inr (Or.inr rfl)), (iI_cl h0 h1 hn).2]
  rfl
theorem aL_ok {n : Nat} {z : Int} (h : KD E d 21 n) (h0 : 0 ≤ z) (h1 : z < n) (hn : n ≤ 2147483647) : aL (St E B) (E.1 + d) (iI z) = some (B.2.2.2.2 d z) := by
  unfold aL
  rw [atV_ok h h0 h1 hn, cellB_l rfl, (iI_cl h0 h1 hn).2]
  rfl
theorem aR_ok {t n e : Nat} {z : Int} (h : KD E d t n) (ht : 24 ≤ t) (h0 : 0 ≤ z) (h1 : z < n) (hn : n ≤ 2147483647) (he : B.2.2.1 d z.toNat = some e) : aR (St E B) t (E.1 + d) (iI z) = some (E.1 + e) := by
  unfold aR
  rw [atV_ok h h0 h1 hn, cellB_r ht]
  have hz : (iI z).toNatClampNeg = z.toNat := by have := (iI_cl h0 h1 hn).2; omega
  rw [hz, he]
  rfl
theorem stV_ok {t n : Nat} {z : Int} {v : Value} {B' : Bk} (h : KD E d t n) (h0 : 0 ≤ z) (h1 : z < n) (hn : n ≤ 2147483647) (hv : ∀ k : Nat, (cellB E.1 (t, n) B' d).2.2 k = if (k : Int) = z then v else (cellB E.1 (t, n) B d).2.2 k) (ho : ∀ e, e ≠ d → cellB E.1 (E.2.2.1 e) B' e = cellB E.1 (E.2.2.1 e) B e) : stV (St E B) t (E.1 + d) (iI z) v = some (St E B') := by
  unfold stV
  rw [St_at h.1, cellB_1, cellB_2, h.2, if_pos ⟨rfl, (iI_cl h0 h1 hn).1⟩]
  congr 1
  unfold wr
  refine St_cu h.1 ?_ ho
  rw [St_at h.1, h.2]
  have e3 : ∀ X Y : PC, X.1 = Y.1 → X.2.1 = Y.2.1 → X.2.2 = Y.2.2 → X = Y := fun X Y a b c => by
    obtain ⟨x1, x2, x3⟩ := X
    obtain ⟨y1, y2, y3⟩ := Y
    simp only at a b c
    rw [a, b, c]
  refine e3 _ _ ?_ ?_ ?_
  · simp only [cellB_1]
  · simp only [cellB_2]
  · funext k
    rw [hv k]
    show va_up (cellB E.1 (t, n) B d).2.2 (iI z).toNatClampNeg v k = _
    unfold va_up
    have := (iI_cl h0 h1 hn).2
    by_cases hk : k = (iI z).toNatClampNeg
    · rw [if_pos hk, if_pos (by omega)]
    · rw [if_neg hk, if_neg (by omega)]
theorem wA_oth {x z : Int} : ∀ e, e ≠ d → cellB E.1 (E.2.2.1 e) (wA B d z x) e = cellB E.1 (E.2.2.1 e) B e := by
  intro e he
  unfold cellB
  simp only [wA, fv]
  split
  · rfl
  · split
    · rfl
    · split
      · congr 2
        funext k
        simp [upA, he]
      · rfl
theorem wJ_oth {x : Int64} {z : Int} : ∀ e, e ≠ d → cellB E.1 (E.2.2.1 e) (wJ B d z x) e = cellB E.1 (E.2.2.1 e) B e := by
  intro e he
  unfold cellB
  simp only [wJ, fv]
  split
  · rfl
  · split
    · congr 2
      funext k
      simp [upA, he]
    · rfl
theorem sI_ok {n : Nat} {z x : Int} (h : KD E d 20 n) (h0 : 0 ≤ z) (h1 : z < n) (hn : n ≤ 2147483647) : sI (St E B) (E.1 + d) (iI z) (iI x) = some (St E (wA B d z x)) := by
  refine stV_ok h h0 h1 hn (fun k => ?_) wA_oth
  rw [cellB_i (Or.inl rfl), cellB_i (Or.inl rfl)]
  by_cases hk : (k : Int) = z <;> simp [wA, upA, hk]
theorem sZ_ok {n : Nat} {z x : Int} (h : KD E d 23 n) (h0 : 0 ≤ z) (h1 : z < n) (hn : n ≤ 2147483647) (hx : x = 0 ∨ x = 1) : sZ (St E B) (E.1 + d) (iI z) (iI x) = some (St E (wA B d z x)) := by
  unfold sZ
  rw [if_pos (by rcases hx with rfl | rfl <;> decide)]
  refine stV_ok h h0 h1 hn (fun k => ?_) wA_oth
  rw [cellB_i (Or.inr (Or.inr rfl)), cellB_i (Or.inr (Or.inr rfl))]
  by_cases hk : (k : Int) = z <;> simp [wA, upA, hk]
theorem sB_ok {n : Nat} {z x : Int} {y : Int32} (h : KD E d 22 n) (h0 : 0 ≤ z) (h1 : z < n) (hn : n ≤ 2147483647) (hx : i2b y = iI x) : sB (St E B) (E.1 + d) (iI z) y = some (St E (wA B d z x)) := by
  unfold sB
  refine stV_ok h h0 h1 hn (fun k => ?_) wA_oth
  rw [cellB_i (Or.inr (Or.inl rfl)), cellB_i (Or.inr (Or.inl rfl)), hx]
  by_cases hk : (k : Int) = z <;> simp [wA, upA, hk]
theorem sL_ok {n : Nat} {z : Int} {x : Int64} (h : KD E d 21 n) (h0 : 0 ≤ z) (h1 : z < n) (hn : n ≤ 2147483647) : sL (St E B) (E.1 + d) (iI z) x = some (St E (wJ B d z x)) := by
  refine stV_ok h h0 h1 hn (fun k => ?_) wJ_oth
  rw [cellB_l rfl, cellB_l rfl]
  by_cases hk : (k : Int) = z <;> simp [wJ, upA, hk]
theorem aN_ok {t n : Nat} (h : KD E d t n) (ht : 20 ≤ t) (ht2 : t < 27) : aN (St E B) (E.1 + d) = some (iI n) := by
  unfold aN
  rw [St_at h.1, cellB_1, cellB_2, h.2, if_pos ⟨ht, ht2⟩]
  rfl
end H2
/-! ints as integers -/
theorem iI_0 : (0 : Int32) = iI 0 := by decide
theorem iI_add (a b : Int) : iI a + iI b = iI (a + b) := (Int32.ofInt_add a b).symm
theorem iI_sub (a b : Int) : iI a - iI b = iI (a - b) := (Int32.ofInt_sub a b).symm
theorem iI_mul (a b : Int) : iI a * iI b = iI (a * b) := (Int32.ofInt_mul a b).symm
theorem iI_toInt {z : Int} (h : -2147483648 ≤ z) (h2 : z < 2147483648) : (iI z).toInt = z := Int32.toInt_ofInt_of_le h h2
theorem iI_lt {a b : Int} (h1 : -2147483648 ≤ a) (h2 : a < 2147483648) (h3 : -2147483648 ≤ b) (h4 : b < 2147483648) : (iI a < iI b) ↔ a < b := by rw [Int32.lt_iff_toInt_lt, iI_toInt h1 h2, iI_toInt h3 h4]
theorem iI_le {a b : Int} (h1 : -2147483648 ≤ a) (h2 : a < 2147483648) (h3 : -2147483648 ≤ b) (h4 : b < 2147483648) : (iI a ≤ iI b) ↔ a ≤ b := by rw [Int32.le_iff_toInt_le, iI_toInt h1 h2, iI_toInt h3 h4]
theorem iI_eq {a b : Int} (h1 : -2147483648 ≤ a) (h2 : a < 2147483648) (h3 : -2147483648 ≤ b) (h4 : b < 2147483648) : (iI a = iI b) ↔ a = b := by rw [← Int32.toInt_inj, iI_toInt h1 h2, iI_toInt h3 h4]
theorem iI_of (x : Int32) : ∃ z : Int, -2147483648 ≤ z ∧ z < 2147483648 ∧ x = iI z := ⟨x.toInt, Int32.le_toInt x, Int32.toInt_lt x, (Int32.ofInt_toInt x).symm⟩
theorem some_bind {α β : Type} (x : α) (k : α → Option β) : (some x).bind k = k x := rfl
/-- loops by a measure -/
theorem iter_m {σ ρ : Type} {F : σ → Option (σ ⊕ ρ)} (I : σ → Prop) (μ : σ → Nat) (Q : ρ → Prop) (hs : ∀ a, I a → (∃ a', F a = some (.inl a') ∧ I a' ∧ μ a' < μ a) ∨ (∃ r, F a = some (.inr r) ∧ Q r)) : ∀ (n : Nat) (a : σ), I a → μ a < n → ∃ r, iter F n a = some r ∧ Q r := by
  intro n
  induction n with
  | zero => intro a _ h; omega
  | succ n ih =>
    intro a ha hn
    rcases hs a ha with ⟨a', h1, h2, h3⟩ | ⟨r, h1, h2⟩
    · obtain ⟨r, h4, h5⟩ := ih a' h2 (by omega)
      exact ⟨r, by show (F a).bind _ = _; rw [h1]; exact h4, h5⟩
    · exact ⟨r, by show (F a).bind _ = _; rw [h1]; rfl, h2⟩
