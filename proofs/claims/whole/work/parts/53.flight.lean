/-! the flight of a valley, plain: numbers of it, its step, what bounds hold -/
def up1 (v : Int → Int) (k x : Int) : Int → Int := fun j => if j = k then x else v j
theorem up1_s {v : Int → Int} {k x : Int} : up1 v k x k = x := if_pos rfl
theorem up1_o {v : Int → Int} {k j x : Int} (h : j ≠ k) : up1 v k x j = v j := if_neg h
/-- numbers; winds (layer, hour); shops; doors; acts (shop, hour); gusts (layer, hour) -/
abbrev Vy : Type := (Nat → Int) × (Int → Int → Int) × (Int → Int → Int) × (Int → Int → Int) × (Int → Int → Int) × (Int → Int → Int)
def VOK (V : Vy) : Prop := (2 ≤ V.1 1 ∧ V.1 1 ≤ 8) ∧ (2 ≤ V.1 2 ∧ V.1 2 ≤ 8) ∧ (2 ≤ V.1 3 ∧ V.1 3 ≤ 5) ∧ (1 ≤ V.1 4 ∧ V.1 4 ≤ 24) ∧ (0 ≤ V.1 5 ∧ V.1 5 ≤ 24) ∧ (0 ≤ V.1 6 ∧ V.1 6 < V.1 3) ∧ (0 ≤ V.1 7 ∧ V.1 7 ≤ 99) ∧ (0 ≤ V.1 8 ∧ V.1 8 ≤ 4) ∧ (0 ≤ V.1 9 ∧ V.1 9 ≤ 5) ∧
  (∀ l h : Int, 0 ≤ l → l < V.1 3 → 0 ≤ h → h < V.1 4 → 0 ≤ V.2.1 l h ∧ V.2.1 l h < 5) ∧
  (∀ s : Int, 0 ≤ s → s < V.1 8 → (0 ≤ V.2.2.1 s 0 ∧ V.2.2.1 s 0 < V.1 1) ∧ (0 ≤ V.2.2.1 s 1 ∧ V.2.2.1 s 1 < V.1 2) ∧ (0 ≤ V.2.2.1 s 2 ∧ V.2.2.1 s 2 < V.1 3) ∧ (0 ≤ V.2.2.1 s 3 ∧ V.2.2.1 s 3 ≤ 10) ∧ (0 ≤ V.2.2.1 s 4 ∧ V.2.2.1 s 4 ≤ 10) ∧ (0 ≤ V.2.2.1 s 5 ∧ V.2.2.1 s 5 ≤ 9)) ∧
  (∀ i : Int, 0 ≤ i → i < V.1 9 → (0 ≤ V.2.2.2.1 i 0 ∧ V.2.2.2.1 i 0 < V.1 1) ∧ (0 ≤ V.2.2.2.1 i 1 ∧ V.2.2.2.1 i 1 < V.1 2) ∧ (0 ≤ V.2.2.2.1 i 2 ∧ V.2.2.2.1 i 2 ≤ 9)) ∧
  (∀ s h : Int, 0 ≤ s → s < V.1 8 → 0 ≤ h → h < V.1 4 → 0 ≤ V.2.2.2.2.1 s h ∧ V.2.2.2.2.1 s h ≤ 2) ∧
  (∀ l h : Int, 0 ≤ l → l < V.1 3 → 0 ≤ h → h < V.1 4 → V.2.2.2.2.2 l h = 0 ∨ V.2.2.2.2.2 l h = 1)
/-- why an act is in vain, in a valley of so many layers; 0: it is not -/
def whyS (ly act : Int) (v : Int → Int) : Int :=
  if act = 1 then (if v 2 < ly - 1 then (if v 3 ≤ 0 then 1 else 0) else 3) else if act = 2 then (if 0 < v 2 then (if v 4 ≤ 0 then 2 else 0) else 4) else 0
def doS (act : Int) (v : Int → Int) : Int → Int :=
  if act = 1 then up1 (up1 v 2 (v 2 + 1)) 3 (v 3 - 1) else if act = 2 then up1 (up1 v 2 (v 2 - 1)) 4 (v 4 - 1) else v
def actS (ly act : Int) (v : Int → Int) : Int → Int := if whyS ly act v = 0 then doS act v else v
def carS (wd dp w g : Int) (v : Int → Int) : Int := if g = 0 then crX wd dp (v 1 * 8 + v 0) w else crX wd dp (crX wd dp (v 1 * 8 + v 0) w) w
def putS (v : Int → Int) (c : Int) : Int → Int := up1 (up1 v 0 (c % 8)) 1 (c / 8)
def colS (b : Int) (v : Int → Int) : Int → Int := if b = 1 ∧ 0 < v 2 then up1 v 2 (v 2 - 1) else v
def drV (V : Vy) (c : Int) : Int := if lf (fun i => V.2.2.2.1 i 1 * 8 + V.2.2.2.1 i 0 = c) (V.1 9).toNat 0 < V.1 9 then lf (fun i => V.2.2.2.1 i 1 * 8 + V.2.2.2.1 i 0 = c) (V.1 9).toNat 0 else -1
/-- the door of the sale; -1 without -/
def selD (V : Vy) (v w : Int → Int) : Int := if ¬ drV V (v 1 * 8 + v 0) = -1 ∧ v 2 ≤ V.1 6 ∧ 0 < v 5 ∧ 0 < w (drV V (v 1 * 8 + v 0)) then drV V (v 1 * 8 + v 0) else -1
def selS (V : Vy) (d : Int) (v : Int → Int) : Int → Int := if d = -1 then v else up1 (up1 (up1 v 5 (v 5 - 1)) 6 (v 6 + max 0 (V.1 7 - v 2))) 2 (min (v 2 + 1) (V.1 3 - 1))
def selW (d : Int) (w : Int → Int) : Int → Int := if d = -1 then w else up1 w d (w d - 1)
/-- has the valley cooled at the end of an hour -/
def coolV (V : Vy) (h : Int) : Int := bI (0 < V.1 5 ∧ (h + 1) % V.1 5 = 0)
/-- behind the act -/
def st1 (V : Vy) (h s : Int) (v : Int → Int) : Int → Int := actS (V.1 3) (V.2.2.2.2.1 s h) v
/-- where it is then -/
def stC (V : Vy) (h s : Int) (v : Int → Int) : Int := carS (V.1 1) (V.1 2) (V.2.1 (st1 V h s v 2) h) (V.2.2.2.2.2 (st1 V h s v 2) h) (st1 V h s v)
/-- ahead of the sale -/
def st3 (V : Vy) (h s : Int) (v : Int → Int) : Int → Int := colS (coolV V h) (putS (st1 V h s v) (stC V h s v))
def stD (V : Vy) (h s : Int) (v w : Int → Int) : Int := selD V (st3 V h s v) w
def st4 (V : Vy) (h s : Int) (v w : Int → Int) : Int → Int := selS V (stD V h s v w) (st3 V h s v)
/-- bounds of a shop on page h -/
def inS (V : Vy) (h : Int) (v : Int → Int) : Prop := (0 ≤ v 0 ∧ v 0 < V.1 1) ∧ (0 ≤ v 1 ∧ v 1 < V.1 2) ∧ (0 ≤ v 2 ∧ v 2 < V.1 3) ∧ (0 ≤ v 3 ∧ v 3 ≤ 10) ∧ (0 ≤ v 4 ∧ v 4 ≤ 10) ∧ (0 ≤ v 5 ∧ v 5 ≤ 9) ∧ (0 ≤ v 6 ∧ v 6 ≤ 99 * h)
def inW (V : Vy) (w : Int → Int) : Prop := ∀ i, 0 ≤ i → i < V.1 9 → 0 ≤ w i ∧ w i ≤ 9
section FL
variable {V : Vy} {v w : Int → Int} {h s : Int}
theorem doS_in {act : Int} (h2 : inS V h v) (hy : whyS (V.1 3) act v = 0) : inS V h (doS act v) := by
  obtain ⟨a0, a1, a2, a3, a4, a5, a6⟩ := h2
  unfold whyS at hy
  unfold doS
  by_cases q1 : act = 1
  · rw [if_pos q1] at hy ⊢
    by_cases q2 : v 2 < V.1 3 - 1
    · rw [if_pos q2] at hy
      by_cases q3 : v 3 ≤ 0
      · rw [if_pos q3] at hy
        omega
      · unfold inS up1
        simp
        omega
    · rw [if_neg q2] at hy
      omega
  · rw [if_neg q1] at hy ⊢
    by_cases q2 : act = 2
    · rw [if_pos q2] at hy ⊢
      by_cases q3 : 0 < v 2
      · rw [if_pos q3] at hy
        by_cases q4 : v 4 ≤ 0
        · rw [if_pos q4] at hy
          omega
        · unfold inS up1
          simp
          omega
      · rw [if_neg q3] at hy
        omega
    · rw [if_neg q2]
      exact ⟨a0, a1, a2, a3, a4, a5, a6⟩
theorem st1_in (h2 : inS V h v) : inS V h (st1 V h s v) := by
  unfold st1 actS
  by_cases q : whyS (V.1 3) (V.2.2.2.2.1 s h) v = 0
  · rw [if_pos q]
    exact doS_in h2 q
  · rw [if_neg q]
    exact h2
theorem carS_in {g w' : Int} (hV : VOK V) (h2 : inS V h v) : cOK (V.1 1) (V.1 2) (carS (V.1 1) (V.1 2) w' g v) := by
  obtain ⟨a0, a1, -⟩ := h2
  have k := cOK_xy a0.1 a0.2 a1.1 a1.2 hV.1.2
  unfold carS
  by_cases q : g = 0
  · rw [if_pos q]
    exact crX_in k hV.1.2
  · rw [if_neg q]
    exact crX_in (crX_in k hV.1.2) hV.1.2
theorem putS_in {c : Int} (h2 : inS V h v) (hc : cOK (V.1 1) (V.1 2) c) : inS V h (putS v c) := by
  obtain ⟨a0, a1, a2, a3, a4, a5, a6⟩ := h2
  obtain ⟨c0, c1, c2⟩ := hc
  unfold inS putS up1
  simp
  omega
theorem colS_in {b : Int} (h2 : inS V h v) : inS V h (colS b v) := by
  obtain ⟨a0, a1, a2, a3, a4, a5, a6⟩ := h2
  unfold colS
  by_cases q : b = 1 ∧ 0 < v 2
  · rw [if_pos q]
    unfold inS up1
    simp
    omega
  · rw [if_neg q]
    exact ⟨a0, a1, a2, a3, a4, a5, a6⟩
theorem st3_in (hV : VOK V) (h2 : inS V h v) : inS V h (st3 V h s v) := colS_in (putS_in (st1_in h2) (carS_in hV (st1_in h2)))
theorem drV_b (hV : VOK V) {c : Int} : drV V c = -1 ∨ (0 ≤ drV V c ∧ drV V c < V.1 9) := by
  unfold drV
  obtain ⟨l1, l2, -⟩ := lf_spec (fun i => V.2.2.2.1 i 1 * 8 + V.2.2.2.1 i 0 = c) (V.1 9).toNat 0
  by_cases q : lf (fun i => V.2.2.2.1 i 1 * 8 + V.2.2.2.1 i 0 = c) (V.1 9).toNat 0 < V.1 9
  · rw [if_pos q]
    exact Or.inr ⟨l1, q⟩
  · rw [if_neg q]
    exact Or.inl rfl
theorem selD_b (hV : VOK V) : selD V v w = -1 ∨ (0 ≤ selD V v w ∧ selD V v w < V.1 9 ∧ 0 < w (selD V v w) ∧ 0 < v 5) := by
  unfold selD
  by_cases q : ¬ drV V (v 1 * 8 + v 0) = -1 ∧ v 2 ≤ V.1 6 ∧ 0 < v 5 ∧ 0 < w (drV V (v 1 * 8 + v 0))
  · rw [if_pos q]
    have := drV_b hV (c := v 1 * 8 + v 0)
    exact Or.inr ⟨by omega, by omega, q.2.2.2, q.2.2.1⟩
  · rw [if_neg q]
    exact Or.inl rfl
theorem stD_b (hV : VOK V) : stD V h s v w = -1 ∨ (0 ≤ stD V h s v w ∧ stD V h s v w < V.1 9 ∧ 0 < w (stD V h s v w) ∧ 0 < st3 V h s v 5) := selD_b hV
theorem st4_in (hV : VOK V) (h2 : inS V h v) : inS V (h + 1) (st4 V h s v w) := by
  have h3 := st3_in (s := s) hV h2
  have hd := stD_b (h := h) (s := s) (v := v) (w := w) hV
  unfold st4 selS
  generalize st3 V h s v = u at h3 hd ⊢
  obtain ⟨a0, a1, a2, a3, a4, a5, a6⟩ := h3
  obtain ⟨b1, b2, b3, b4, b5, b6, b7, -⟩ := hV
  by_cases q : stD V h s v w = -1
  · rw [if_pos q]
    exact ⟨a0, a1, a2, a3, a4, a5, by omega⟩
  · rw [if_neg q]
    unfold inS up1
    simp
    omega
theorem stW_in (hV : VOK V) (hw : inW V w) : inW V (selW (stD V h s v w) w) := by
  have hd := stD_b (h := h) (s := s) (v := v) (w := w) hV
  intro i i1 i2
  have := hw i i1 i2
  unfold selW
  by_cases q : stD V h s v w = -1
  · rw [if_pos q]
    exact this
  · rw [if_neg q]
    unfold up1
    by_cases q2 : i = stD V h s v w
    · rw [if_pos q2, ← q2]
      rw [← q2] at hd
      omega
    · rw [if_neg q2]
      exact this
end FL
/-- shops (shop, what) and what doors want -/
abbrev Fs : Type := (Int → Int → Int) × (Int → Int)
def fsS (V : Vy) (h s : Int) (a : Fs) : Fs := (fun s' => if s' = s then st4 V h s (a.1 s) a.2 else a.1 s', selW (stD V h s (a.1 s) a.2) a.2)
def fsH (V : Vy) (h : Int) (a : Fs) : Nat → Fs := fo (fun s a => fsS V h s a) a
def fs0 (V : Vy) : Fs := (fun s k => if k = 6 then 0 else V.2.2.1 s k, fun i => V.2.2.2.1 i 2)
/-- ahead of hour n -/
def fsF (V : Vy) : Nat → Fs := fo (fun h a => fsH V h a (V.1 8).toNat) (fs0 V)
/-- ahead of shop s in hour h -/
def fsB (V : Vy) (h s : Nat) : Fs := fsH V h (fsF V h) s
def fOK (V : Vy) (h h' : Int) (j : Nat) (a : Fs) : Prop := (∀ s : Int, 0 ≤ s → s < (j : Int) → inS V h' (a.1 s)) ∧ (∀ s : Int, (j : Int) ≤ s → s < V.1 8 → inS V h (a.1 s)) ∧ inW V a.2
section FM
variable {V : Vy}
theorem fsH_ok (hV : VOK V) {h : Int} {a : Fs} (ha : fOK V h (h + 1) 0 a) : ∀ j : Nat, (j : Int) ≤ V.1 8 → fOK V h (h + 1) j (fsH V h a j) := by
  intro j
  induction j with
  | zero => intro _; exact ha
  | succ j ih =>
    intro hj
    obtain ⟨i1, i2, i3⟩ := ih (by omega)
    have e : fsH V h a (j + 1) = fsS V h j (fsH V h a j) := rfl
    rw [e]
    generalize fsH V h a j = b at i1 i2 i3 ⊢
    refine ⟨fun s s1 s2 => ?_, fun s s1 s2 => ?_, stW_in hV i3⟩
    · show inS V (h + 1) (if s = (j : Int) then st4 V h j (b.1 j) b.2 else b.1 s)
      by_cases q : s = (j : Int)
      · rw [if_pos q]
        exact st4_in hV (i2 j (by omega) (by omega))
      · rw [if_neg q]
        exact i1 s s1 (by omega)
    · show inS V h (if s = (j : Int) then st4 V h j (b.1 j) b.2 else b.1 s)
      rw [if_neg (by omega)]
      exact i2 s (by omega) s2
theorem fs0_ok (hV : VOK V) : fOK V 0 1 0 (fs0 V) := by
  obtain ⟨b1, b2, b3, b4, b5, b6, b7, b8, b9, -, bs, bd, -⟩ := hV
  refine ⟨fun s s1 s2 => by omega, fun s s1 s2 => ?_, fun i i1 i2 => (bd i i1 i2).2.2⟩
  have := bs s (by omega) s2
  unfold inS fs0
  simp
  omega
theorem fsF_ok (hV : VOK V) : ∀ h : Nat, fOK V h (h + 1) 0 (fsF V h) := by
  intro h
  induction h with
  | zero => exact fs0_ok hV
  | succ h ih =>
    have b8 := hV.2.2.2.2.2.2.2.1
    obtain ⟨i1, i2, i3⟩ := fsH_ok hV ih (V.1 8).toNat (by omega)
    have e : fsF V (h + 1) = fsH V h (fsF V h) (V.1 8).toNat := rfl
    rw [e]
    refine ⟨fun s s1 s2 => by omega, fun s s1 s2 => ?_, i3⟩
    have := i1 s (by omega) (by omega)
    rw [show ((h + 1 : Nat) : Int) = (h : Int) + 1 by omega]
    exact this
theorem fsF_in (hV : VOK V) {h : Nat} {s : Int} (s1 : 0 ≤ s) (s2 : s < V.1 8) : inS V h ((fsF V h).1 s) := (fsF_ok hV h).2.1 s (by omega) s2
theorem fsB_ok (hV : VOK V) {h j : Nat} (hj : (j : Int) ≤ V.1 8) : fOK V h (h + 1) j (fsB V h j) := fsH_ok hV (fsF_ok hV h) j hj
/-- in an hour a shop's own numbers stand till its turn -/
theorem fsB_u {h : Nat} {s : Int} : ∀ j : Nat, (j : Int) ≤ s → (fsB V h j).1 s = (fsF V h).1 s := by
  intro j
  induction j with
  | zero => intro _; rfl
  | succ j ih =>
    intro hj
    show (if s = (j : Int) then _ else (fsB V h j).1 s) = _
    rw [if_neg (by omega), ih (by omega)]
/-- and stay behind it -/
theorem fsB_d {h j : Nat} {s : Int} (hs : s < j) : (fsB V h (j + 1)).1 s = (fsB V h j).1 s := by
  show (if s = (j : Int) then _ else (fsB V h j).1 s) = _
  rw [if_neg (by omega)]
theorem fsB_s {h j : Nat} : (fsB V h (j + 1)).1 j = st4 V h j ((fsF V h).1 j) (fsB V h j).2 := by
  show (if (j : Int) = (j : Int) then st4 V h j ((fsB V h j).1 j) (fsB V h j).2 else _) = _
  rw [if_pos rfl, fsB_u j (Int.le_refl _)]
theorem fsB_w {h j : Nat} : (fsB V h (j + 1)).2 = selW (stD V h j ((fsF V h).1 j) (fsB V h j).2) (fsB V h j).2 := by
  show selW (stD V h j ((fsB V h j).1 j) (fsB V h j).2) (fsB V h j).2 = _
  rw [fsB_u j (Int.le_refl _)]
theorem fsB_n {h : Nat} : fsB V h (V.1 8).toNat = fsF V (h + 1) := rfl
end FM
/-- what a flight tells of a shop in an hour: why not, where it was carried, the door of its sale -/
def whyF (V : Vy) (h s : Nat) : Int := whyS (V.1 3) (V.2.2.2.2.1 s h) ((fsF V h).1 s)
def blwF (V : Vy) (h s : Nat) : Int := bI (¬ stC V h s ((fsF V h).1 s) = st1 V h s ((fsF V h).1 s) 1 * 8 + st1 V h s ((fsF V h).1 s) 0)
def sldF (V : Vy) (h s : Nat) : Int := stD V h s ((fsF V h).1 s) (fsB V h s).2
