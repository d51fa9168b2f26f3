/-! what the heap is asked, and how it is changed -/
def cu (s : Hp) (a : Nat) (c : PC) : Hp := (s.1, s.2.1, va_up s.2.2 a c)
def wr (s : Hp) (a j : Nat) (v : Value) : Hp := cu s a ((s.2.2 a).1, (s.2.2 a).2.1, va_up (s.2.2 a).2.2 j v)
def gtV (s : Hp) (a ci j : Nat) : Option Value := if (s.2.2 a).1 = ci ∧ j < (s.2.2 a).2.1 then some ((s.2.2 a).2.2 j) else none
def vI (v : Value) : Option Int32 := match v with | .int x => some x | _ => none
def vL (v : Value) : Option Int64 := match v with | .long x => some x | _ => none
def vR (v : Value) : Option Nat := match v with | .ref x => some x | _ => none
def vN (v : Value) : Option (Option Nat) := match v with | .ref x => some (some x) | .null => some none | _ => none
def gI (s : Hp) (a ci j : Nat) : Option Int32 := (gtV s a ci j).bind vI
def gL (s : Hp) (a ci j : Nat) : Option Int64 := (gtV s a ci j).bind vL
def gR (s : Hp) (a ci j : Nat) : Option Nat := (gtV s a ci j).bind vR
def gO (s : Hp) (a ci j : Nat) : Option (Option Nat) := (gtV s a ci j).bind vN
def ptV (s : Hp) (a ci j : Nat) (v : Value) : Option Hp := if (s.2.2 a).1 = ci ∧ j < (s.2.2 a).2.1 then some (wr s a j v) else none
def pI (s : Hp) (a ci j : Nat) (x : Int32) : Option Hp := ptV s a ci j (.int x)
def pL (s : Hp) (a ci j : Nat) (x : Int64) : Option Hp := ptV s a ci j (.long x)
def pR (s : Hp) (a ci j : Nat) (x : Nat) : Option Hp := ptV s a ci j (.ref x)
def pZ (s : Hp) (a ci j : Nat) (x : Int32) : Option Hp := if x = 0 ∨ x = 1 then ptV s a ci j (.int x) else none
def atV (s : Hp) (t a : Nat) (i : Int32) : Option Value := if (s.2.2 a).1 = t ∧ ¬ (i < 0 ∨ (s.2.2 a).2.1 ≤ i.toNatClampNeg) then some ((s.2.2 a).2.2 i.toNatClampNeg) else none
def aI (s : Hp) (a : Nat) (i : Int32) : Option Int32 := (atV s 20 a i).bind vI
def aL (s : Hp) (a : Nat) (i : Int32) : Option Int64 := (atV s 21 a i).bind vL
def aB (s : Hp) (a : Nat) (i : Int32) : Option Int32 := (atV s 22 a i).bind vI
def aZ (s : Hp) (a : Nat) (i : Int32) : Option Int32 := (atV s 23 a i).bind vI
def aR (s : Hp) (t a : Nat) (i : Int32) : Option Nat := (atV s t a i).bind vR
def stV (s : Hp) (t a : Nat) (i : Int32) (v : Value) : Option Hp := if (s.2.2 a).1 = t ∧ ¬ (i < 0 ∨ (s.2.2 a).2.1 ≤ i.toNatClampNeg) then some (wr s a i.toNatClampNeg v) else none
def sI (s : Hp) (a : Nat) (i x : Int32) : Option Hp := stV s 20 a i (.int x)
def sL (s : Hp) (a : Nat) (i : Int32) (x : Int64) : Option Hp := stV s 21 a i (.long x)
def sB (s : Hp) (a : Nat) (i x : Int32) : Option Hp := stV s 22 a i (.int (i2b x))
def sZ (s : Hp) (a : Nat) (i x : Int32) : Option Hp := if x = 0 ∨ x = 1 then stV s 23 a i (.int x) else none
def sR (s : Hp) (t ci a : Nat) (i : Int32) (x : Nat) : Option Hp := if (s.2.2 x).1 = ci then stV s t a i (.ref x) else none
def aN (s : Hp) (a : Nat) : Option Int32 := if 20 ≤ (s.2.2 a).1 ∧ (s.2.2 a).1 < 27 then some (Int32.ofNat (s.2.2 a).2.1) else none
/-- a new cell: at the next address -/
def mk (s : Hp) (c : PC) : Hp := (s.1 + 1, s.2.1 + c.2.1, va_up s.2.2 s.1 c)
def mkA (s : Hp) (t : Nat) (n : Int32) (v : Value) : Option Hp := if ¬ n < 0 ∧ n.toNatClampNeg ≤ 60000 then some (mk s (t, n.toNatClampNeg, fun _ => v)) else none
def cpV (s : Hp) (t a0 : Nat) (sp : Int32) (a : Nat) (dp n : Int32) : Option Hp :=
  if (s.2.2 a0).1 = t ∧ (s.2.2 a).1 = t ∧ ¬ sp < 0 ∧ ¬ dp < 0 ∧ ¬ n < 0 ∧ sp.toNatClampNeg + n.toNatClampNeg ≤ (s.2.2 a0).2.1 ∧ dp.toNatClampNeg + n.toNatClampNeg ≤ (s.2.2 a).2.1
  then some (cu s a (t, (s.2.2 a).2.1, va_cpy (s.2.2 a0).2.2 (s.2.2 a).2.2 sp.toNatClampNeg dp.toNatClampNeg n.toNatClampNeg)) else none
theorem gtV_some {s : Hp} {a ci j : Nat} {v : Value} (h : gtV s a ci j = some v) : (s.2.2 a).1 = ci ∧ j < (s.2.2 a).2.1 ∧ (s.2.2 a).2.2 j = v := by
  unfold gtV at h
  split at h
  · next h1 => exact ⟨h1.1, h1.2, Option.some.inj h⟩
  · cases h
theorem ptV_some {s s' : Hp} {a ci j : Nat} {v : Value} (h : ptV s a ci j v = some s') : (s.2.2 a).1 = ci ∧ j < (s.2.2 a).2.1 ∧ s' = wr s a j v := by
  unfold ptV at h
  split at h
  · next h1 => exact ⟨h1.1, h1.2, (Option.some.inj h).symm⟩
  · cases h
theorem atV_some {s : Hp} {t a : Nat} {i : Int32} {v : Value} (h : atV s t a i = some v) : (s.2.2 a).1 = t ∧ vp_in i (s.2.2 a).2.1 ∧ (s.2.2 a).2.2 i.toNatClampNeg = v := by
  unfold atV at h
  split at h
  · next h1 => exact ⟨h1.1, h1.2, Option.some.inj h⟩
  · cases h
theorem stV_some {s s' : Hp} {t a : Nat} {i : Int32} {v : Value} (h : stV s t a i v = some s') : (s.2.2 a).1 = t ∧ vp_in i (s.2.2 a).2.1 ∧ s' = wr s a i.toNatClampNeg v := by
  unfold stV at h
  split at h
  · next h1 => exact ⟨h1.1, h1.2, (Option.some.inj h).symm⟩
  · cases h
theorem vI_some {v : Value} {x : Int32} (h : vI v = some x) : v = .int x := by cases v <;> simp [vI] at h; rw [h]
theorem vL_some {v : Value} {x : Int64} (h : vL v = some x) : v = .long x := by cases v <;> simp [vL] at h; rw [h]
theorem vR_some {v : Value} {x : Nat} (h : vR v = some x) : v = .ref x := by cases v <;> simp [vR] at h; rw [h]
theorem vN_some {v : Value} {x : Option Nat} (h : vN v = some x) : v = va_rf x := by cases v <;> simp [vN] at h <;> subst h <;> rfl
theorem bind_some {α β : Type} {o : Option α} {k : α → Option β} {w : β} (h : o.bind k = some w) : ∃ x, o = some x ∧ k x = some w := by
  cases o with
  | none => cases h
  | some x => exact ⟨x, rfl, h⟩
theorem toE_obj {tA : Nat → ClassId} {c : PC} (h : c.1 < 20) : toE tA c = .inr (c.1, (List.range c.2.1).map c.2.2) := by simp [toE, h]
theorem toE_int {tA : Nat → ClassId} {c : PC} (h : c.1 = 20 ∨ c.1 = 22 ∨ c.1 = 23) : toE tA c = .inl (tA c.1, c.2.1, .inl (fun j => toI (c.2.2 j))) := by
  rcases h with h | h | h <;> simp [toE, h]
theorem toE_long {tA : Nat → ClassId} {c : PC} (h : c.1 = 21) : toE tA c = .inl (tA 21, c.2.1, .inr (.inl (fun j => toL (c.2.2 j)))) := by simp [toE, h]
theorem toE_ref {tA : Nat → ClassId} {c : PC} (h : 24 ≤ c.1) : toE tA c = .inl (tA c.1, c.2.1, .inr (.inr (.inr (.inr (fun j => toR (c.2.2 j)))))) := by
  have h1 : ¬ c.1 < 20 := by omega
  have h2 : ¬ c.1 = 21 := by omega
  have h3 : ¬ c.1 < 24 := by omega
  simp [toE, h1, h2, h3]
theorem wsO_set {G : Gm} {s : Hp} {a k : Nat} {e : va_E} (c : PC) (ha : gB G ≤ a ∧ a < s.1) (hk : (wsO G s)[k]? = some (a, toE G.2.2.1 (s.2.2 a))) (he : e = toE G.2.2.1 c) : (wsO G s).set k (a, e) = wsO G (cu s a c) := by
  have h := va_pl_set (A := Af G) (X := []) (L := AL (gB G) s.1) (f := fun a => toE G.2.2.1 (s.2.2 a)) (a := a) (k := k) (e := e) wsO_D (AL_mem.mpr ha) hk
  have h2 : (wsO G s).set k (a, e) = va_pl (AL (gB G) s.1) (va_up (fun a => toE G.2.2.1 (s.2.2 a)) a e) := h
  rw [h2]
  apply va_pl_congr
  intro b
  by_cases hb : b = a
  · subst hb
    simp [va_up, cu, he]
  · simp [va_up, cu, hb]
theorem OKs_cu {G : Gm} {s : Hp} {a : Nat} {c : PC} (h : OKs G s) (hc : c.1 = (s.2.2 a).1) (ht : (s.2.2 a).1 < 40) : OKs G (cu s a c) := by
  refine ⟨h.1, fun b hb => ?_, fun b hb => ?_⟩
  · by_cases e : b = a
    · subst e
      exact h.2.1 b ht
    · have : ((cu s a c).2.2 b) = s.2.2 b := by simp [cu, va_up, e]
      rw [this] at hb
      exact h.2.1 b hb
  · by_cases e : b = a
    · subst e
      have : ((cu s b c).2.2 b) = c := by simp [cu, va_up]
      rw [this] at hb
      omega
    · have : ((cu s a c).2.2 b) = s.2.2 b := by simp [cu, va_up, e]
      rw [this] at hb ⊢
      exact h.2.2 b hb
theorem range_set {f : Nat → Value} {n j : Nat} {v : Value} : ((List.range n).map f).set j v = (List.range n).map (va_up f j v) := by
  apply List.ext_getElem?
  intro i
  by_cases hi : i = j
  · subst hi
    by_cases hl : i < n
    · rw [List.getElem?_set_self (by simp [hl])]
      simp [List.getElem?_map, List.getElem?_range hl, va_up]
    · rw [List.getElem?_eq_none (by simp; omega), List.getElem?_eq_none (by simp; omega)]
  · rw [List.getElem?_set_ne (Ne.symm hi)]
    simp only [List.getElem?_map]
    by_cases hl : i < n
    · simp [List.getElem?_range hl, va_up, hi]
    · rw [List.getElem?_eq_none (by simp; omega)]
      rfl
theorem toI_up {f : Nat → Value} {k : Nat} {x : Int32} : (fun j => toI (va_up f k (.int x) j)) = upd (fun j => toI (f j)) k x := by
  funext j
  by_cases h : j = k <;> simp [va_up, upd, h, toI]
theorem toL_up {f : Nat → Value} {k : Nat} {x : Int64} : (fun j => toL (va_up f k (.long x) j)) = vp_updL (fun j => toL (f j)) k x := by
  funext j
  by_cases h : j = k <;> simp [va_up, vp_updL, h, toL]
theorem toR_up {f : Nat → Value} {k x : Nat} : (fun j => toR (va_up f k (.ref x) j)) = va_up (fun j => toR (f j)) k (some x) := by
  funext j
  by_cases h : j = k <;> simp [va_up, h, toR]
/-- a field of a class: its class's number, its place, its type, whether it is final -/
def FC (ci j : Nat) (ty : FieldType) (fin : Bool) (C nm ds : String) : Prop := ∃ (T : u_T) (N : Nat) (ty0 : Nat → FieldType), vwCl[ci]? = some (C, T, N) ∧ ci < 20 ∧ j < N ∧ (∀ w ∈ u_ws C T N, w ∈ TB) ∧ (∀ k, k < N → parseFieldDescriptor (T k).2.2.1 = some (ty0 k)) ∧ (∀ a, a < N → ∀ b, b < N → a ≠ b → (T a).2.1 ≠ (T b).2.1) ∧ T j = (C, nm, ds, fin) ∧ parseFieldDescriptor ds = some ty
def FL (own : String) (i ci j : Nat) (ty : FieldType) (fin : Bool) : Prop := ∃ C nm ds, FC ci j ty fin C nm ds ∧ Cond.fieldLink own i C nm ds ∈ TB
def FN (own : String) (i ci j : Nat) (ty : FieldType) (fin : Bool) : Prop := ∃ C nm ds host, FC ci j ty fin C nm ds ∧ Cond.fieldLinkNest own i C nm ds host ∈ NB
section RH
variable {G : Gm} {M : Mt} {pc q : Nat} {L : List (Nat × Value)} {st : List Value} {s : Hp} {o : Option Value × Hp}
theorem R_get {a i ci j : Nat} {ty : FieldType} {fin : Bool} {v : Value} (hd : Dn M.2.1 pc (.getfield i) 3 q) (hf : FL M.1.cls i ci j ty fin) (hg : gtV s a ci j = some v) (kk : R G M q L (v :: st) s o) : R G M pc L (.ref a :: st) s o := by
  obtain ⟨hd, rfl⟩ := hd
  obtain ⟨h1, h2, h3⟩ := gtV_some hg
  obtain ⟨C, nm, ds, ⟨T, N, ty0, g1, g2, g3, g4, g5, g6, g7, g8⟩, hw⟩ := hf
  refine kk.stp fun p e Rm u m args below meth c H locs cells slots Q ls hC hR hS hl w => ?_
  have ha := hR.1.2.1 a (by omega)
  obtain ⟨k, hk⟩ := wsO_at (G := G) (s := s) ha
  rw [toE_obj (by omega), h1] at hk
  refine va_get (ref := (T j).1) hC.1 hC.2.1 (hC.2.2.2.2.2.1) g4 hC.2.2.2.2.1 hC.2.2.2.2.2.2.2.2.1 hR.2 k hk g1 j g3 ?_ (fun _ h => h) (v := v) ?_ hd w
  · rw [g7]
    exact hC.2.2.2.2.2.1 _ hw
  · rw [List.getElem?_map, List.getElem?_range h2, Option.map_some, h3]
theorem R_getN {a i ci j : Nat} {ty : FieldType} {fin : Bool} {v : Value} (hd : Dn M.2.1 pc (.getfield i) 3 q) (hf : FN M.1.cls i ci j ty fin) (hg : gtV s a ci j = some v) (kk : R G M q L (v :: st) s o) : R G M pc L (.ref a :: st) s o := by
  obtain ⟨hd, rfl⟩ := hd
  obtain ⟨h1, h2, h3⟩ := gtV_some hg
  obtain ⟨C, nm, ds, host, ⟨T, N, ty0, g1, g2, g3, g4, g5, g6, g7, g8⟩, hw⟩ := hf
  refine kk.stp fun p e Rm u m args below meth c H locs cells slots Q ls hC hR hS hl w => ?_
  have ha := hR.1.2.1 a (by omega)
  obtain ⟨k, hk⟩ := wsO_at (G := G) (s := s) ha
  rw [toE_obj (by omega), h1] at hk
  refine va_getN (ref := (T j).1) (host := host) hC.1 hC.2.1 (hC.2.2.2.2.2.1) g4 hC.2.2.2.2.1 hC.2.2.2.2.2.2.2.2.1 hR.2 k hk g1 j g3 ?_ (fun _ h => h) (v := v) ?_ hd w
  · rw [g7]
    exact va_Nw.use rfl (hC.2.2.2.2.2.2.2.2.2.2.2.1 _ hw)
  · rw [List.getElem?_map, List.getElem?_range h2, Option.map_some, h3]
theorem R_gI {a i ci j : Nat} {fin : Bool} {ty : FieldType} {x : Int32} (hd : Dn M.2.1 pc (.getfield i) 3 q) (hf : FL M.1.cls i ci j ty fin) (hg : gI s a ci j = some x) (kk : R G M q L (.int x :: st) s o) : R G M pc L (.ref a :: st) s o := by
  obtain ⟨v, h1, h2⟩ := bind_some hg
  rw [vI_some h2] at h1
  exact R_get hd hf h1 kk
theorem R_gIN {a i ci j : Nat} {fin : Bool} {ty : FieldType} {x : Int32} (hd : Dn M.2.1 pc (.getfield i) 3 q) (hf : FN M.1.cls i ci j ty fin) (hg : gI s a ci j = some x) (kk : R G M q L (.int x :: st) s o) : R G M pc L (.ref a :: st) s o := by
  obtain ⟨v, h1, h2⟩ := bind_some hg
  rw [vI_some h2] at h1
  exact R_getN hd hf h1 kk
theorem R_gL {a i ci j : Nat} {fin : Bool} {ty : FieldType} {x : Int64} (hd : Dn M.2.1 pc (.getfield i) 3 q) (hf : FL M.1.cls i ci j ty fin) (hg : gL s a ci j = some x) (kk : R G M q L (.long x :: st) s o) : R G M pc L (.ref a :: st) s o := by
  obtain ⟨v, h1, h2⟩ := bind_some hg
  rw [vL_some h2] at h1
  exact R_get hd hf h1 kk
theorem R_gR {a i ci j : Nat} {fin : Bool} {ty : FieldType} {x : Nat} (hd : Dn M.2.1 pc (.getfield i) 3 q) (hf : FL M.1.cls i ci j ty fin) (hg : gR s a ci j = some x) (kk : R G M q L (.ref x :: st) s o) : R G M pc L (.ref a :: st) s o := by
  obtain ⟨v, h1, h2⟩ := bind_some hg
  rw [vR_some h2] at h1
  exact R_get hd hf h1 kk
theorem R_gO {a i ci j : Nat} {fin : Bool} {ty : FieldType} {x : Option Nat} (hd : Dn M.2.1 pc (.getfield i) 3 q) (hf : FL M.1.cls i ci j ty fin) (hg : gO s a ci j = some x) (kk : R G M q L (va_rf x :: st) s o) : R G M pc L (.ref a :: st) s o := by
  obtain ⟨v, h1, h2⟩ := bind_some hg
  rw [vN_some h2] at h1
  exact R_get hd hf h1 kk
/-- a cell of ours is written -/
theorem R.wrt {pc' : Nat} {st' : List Value} {a : Nat} {c' : PC} (kk : R G M pc' L st' (cu s a c') o) (ht : (s.2.2 a).1 < 40) (hc : c'.1 = (s.2.2 a).1)
    (h : ∀ (p : Program) (e : Env) (Rm : Room) (u : State) (m : MethodId) (args : Array Value) (below : List Frame) (meth : Method) (c : Code) (H : Heap) (locs : List Loc) (cells slots : Nat) (Q : State → Prop) (ls : Array Slot) (k : Nat),
      Cx G M p u m args meth c → Rep G s H → va_S (Af G) u.heap H locs → lv_has ls M.2.2.1 L → (wsO G s)[k]? = some (a, toE G.2.2.1 (s.2.2 a)) →
      (∀ (H1 : Heap) (locs1 : List Loc), va_P G.2.1 vwCl ((wsO G s).set k (a, toE G.2.2.1 c')) H1 → va_S (Af G) u.heap H1 locs1 → W p G.1 e Rm u m args below meth c H1 locs1 cells slots Q (F0 m pc' ls st')) → W p G.1 e Rm u m args below meth c H locs cells slots Q (F0 m pc ls st)) : R G M pc L st s o := by
  refine ⟨kk.1, fun p e u m args below meth c H locs ls k0 hC hn hk hR hS hl => ?_⟩
  have ha := hR.1.2.1 a ht
  obtain ⟨k, hkk⟩ := wsO_at (G := G) (s := s) ha
  refine h p e _ u m args below meth c H locs _ _ _ ls k hC hR hS hl hkk fun H1 locs1 hP1 hS1 => ?_
  refine kk.2 p e u m args below meth c H1 locs1 ls k0 hC hn hk ⟨OKs_cu hR.1 hc ht, ?_⟩ hS1 hl
  rw [← wsO_set c' ha hkk rfl]
  exact hP1
theorem R_put {a i ci j : Nat} {ty : FieldType} {fin : Bool} {v : Value} {s' : Hp} (hd : Dn M.2.1 pc (.putfield i) 3 q) (hf : FL M.1.cls i ci j ty fin) (hfin : fin = true → M.1.name = "<init>" ∧ ∃ T, vwCl[ci]? = some (M.1.cls, T)) (hg : ptV s a ci j v = some s') (hn : narrow ty v = v) (hv : fits ty v = true) (kk : R G M q L st s' o) : R G M pc L (v :: .ref a :: st) s o := by
  obtain ⟨hd, rfl⟩ := hd
  obtain ⟨h1, h2, rfl⟩ := ptV_some hg
  obtain ⟨C, nm, ds, ⟨T, N, ty0, g1, g2, g3, g4, g5, g6, g7, g8⟩, hw⟩ := hf
  refine R.wrt (a := a) kk (by omega) rfl fun p e Rm u m args below meth c H locs cells slots Q ls k hC hR hS hl hk w => ?_
  rw [toE_obj (by omega), h1] at hk
  have e1 : toE G.2.2.1 ((s.2.2 a).1, (s.2.2 a).2.1, va_up (s.2.2 a).2.2 j v) = .inr (ci, ((List.range (s.2.2 a).2.1).map (s.2.2 a).2.2).set j v) := by
    rw [toE_obj (by show (s.2.2 a).1 < 20; omega), range_set, h1]
  rw [e1] at w
  have hlk : (Cond.fieldLink M.1.cls i (T j).1 (T j).2.1 (T j).2.2.1).before args u = true := by
    rw [g7]
    exact hC.2.2.2.2.2.1 _ hw
  have hlen : j < ((List.range (s.2.2 a).2.1).map (s.2.2 a).2.2).length := by simpa using h2
  cases fin with
  | false =>
    exact va_put (ref := (T j).1) hC.1 hC.2.1 (hC.2.2.2.2.2.1) g4 ty0 g5 g6 hC.2.2.2.2.1 hC.2.2.2.2.2.2.2.2.1 hR.2 wsO_D hS k hk g1 j g3 hlk (fun _ h => h) (by rw [g7]) (ty := ty) (by rw [g7]; exact g8) hn hv hlen hd (fun H1 locs1 hP1 _ hS1 => w H1 locs1 hP1 hS1)
  | true =>
    obtain ⟨hin, T', hT'⟩ := hfin rfl
    have hCeq : C = M.1.cls := by
      have := g1.symm.trans hT'
      simp at this
      exact this.1
    exact va_putF (ref := (T j).1) hC.1 hC.2.1 (hC.2.2.2.2.2.1) g4 ty0 g5 g6 hC.2.2.2.2.1 hC.2.2.2.2.2.2.2.2.1 hR.2 wsO_D hS k hk g1 j g3 hlk (fun _ h => h) (by rw [g7]) (hC.2.2.2.2.2.2.2.1.trans hin) (by rw [g7]; exact hCeq) (ty := ty) (by rw [g7]; exact g8) hn hv hlen hd (fun H1 locs1 hP1 _ hS1 => w H1 locs1 hP1 hS1)
theorem R_pI {a i ci j : Nat} {x : Int32} {s' : Hp} (hd : Dn M.2.1 pc (.putfield i) 3 q) (hf : FL M.1.cls i ci j .int false) (hg : pI s a ci j x = some s') (kk : R G M q L st s' o) : R G M pc L (.int x :: .ref a :: st) s o :=
  R_put hd hf (fun h => by cases h) hg rfl rfl kk
theorem R_pL {a i ci j : Nat} {x : Int64} {s' : Hp} (hd : Dn M.2.1 pc (.putfield i) 3 q) (hf : FL M.1.cls i ci j .long false) (hg : pL s a ci j x = some s') (kk : R G M q L st s' o) : R G M pc L (.long x :: .ref a :: st) s o :=
  R_put hd hf (fun h => by cases h) hg rfl rfl kk
theorem R_pZ {a i ci j : Nat} {x : Int32} {s' : Hp} (hd : Dn M.2.1 pc (.putfield i) 3 q) (hf : FL M.1.cls i ci j .boolean false) (hg : pZ s a ci j x = some s') (kk : R G M q L st s' o) : R G M pc L (.int x :: .ref a :: st) s o := by
  unfold pZ at hg
  split at hg
  · next h => exact R_put hd hf (fun h => by cases h) hg (by rcases h with rfl | rfl <;> rfl) (by rcases h with rfl | rfl <;> rfl) kk
  · cases hg
theorem R_pR {a i ci j x : Nat} {C : String} {s' : Hp} (hd : Dn M.2.1 pc (.putfield i) 3 q) (hf : FL M.1.cls i ci j (.object C) false) (hg : pR s a ci j x = some s') (kk : R G M q L st s' o) : R G M pc L (.ref x :: .ref a :: st) s o :=
  R_put hd hf (fun h => by cases h) hg rfl rfl kk
theorem R_pA {a i ci j x : Nat} {t : FieldType} {s' : Hp} (hd : Dn M.2.1 pc (.putfield i) 3 q) (hf : FL M.1.cls i ci j (.array t) false) (hg : pR s a ci j x = some s') (kk : R G M q L st s' o) : R G M pc L (.ref x :: .ref a :: st) s o :=
  R_put hd hf (fun h => by cases h) hg rfl rfl kk
theorem R_pRF {a i ci j x : Nat} {C : String} {s' : Hp} (hd : Dn M.2.1 pc (.putfield i) 3 q) (hf : FL M.1.cls i ci j (.object C) true) (hin : M.1.name = "<init>" ∧ ∃ T, vwCl[ci]? = some (M.1.cls, T)) (hg : pR s a ci j x = some s') (kk : R G M q L st s' o) : R G M pc L (.ref x :: .ref a :: st) s o :=
  R_put hd hf (fun _ => hin) hg rfl rfl kk
theorem R_pAF {a i ci j x : Nat} {t : FieldType} {s' : Hp} (hd : Dn M.2.1 pc (.putfield i) 3 q) (hf : FL M.1.cls i ci j (.array t) true) (hin : M.1.name = "<init>" ∧ ∃ T, vwCl[ci]? = some (M.1.cls, T)) (hg : pR s a ci j x = some s') (kk : R G M q L st s' o) : R G M pc L (.ref x :: .ref a :: st) s o :=
  R_put hd hf (fun _ => hin) hg rfl rfl kk
theorem R_aI {a : Nat} {i x : Int32} (hd : Dn M.2.1 pc .iaload 1 q) (hg : aI s a i = some x) (kk : R G M q L (.int x :: st) s o) : R G M pc L (.int i :: .ref a :: st) s o := by
  obtain ⟨hd, rfl⟩ := hd
  obtain ⟨v, hv, h2⟩ := bind_some hg
  obtain ⟨h1, hin, h3⟩ := atV_some hv
  rw [vI_some h2] at h3
  refine kk.stp fun p e Rm u m args below meth c H locs cells slots Q ls hC hR hS hl w => ?_
  obtain ⟨k, hk⟩ := wsO_at (G := G) (s := s) (hR.1.2.1 a (by omega))
  rw [toE_int (Or.inl h1), h1] at hk
  refine va_iald hC.1 hC.2.1 hC.2.2.2.2.2.2.2.2.1 hR.2 k 0 hk rfl hin hd ?_
  rw [h3]
  exact w
theorem R_aB {a : Nat} {i x : Int32} (hd : Dn M.2.1 pc .baload 1 q) (hg : aB s a i = some x) (kk : R G M q L (.int x :: st) s o) : R G M pc L (.int i :: .ref a :: st) s o := by
  obtain ⟨hd, rfl⟩ := hd
  obtain ⟨v, hv, h2⟩ := bind_some hg
  obtain ⟨h1, hin, h3⟩ := atV_some hv
  rw [vI_some h2] at h3
  refine kk.stp fun p e Rm u m args below meth c H locs cells slots Q ls hC hR hS hl w => ?_
  obtain ⟨k, hk⟩ := wsO_at (G := G) (s := s) (hR.1.2.1 a (by omega))
  rw [toE_int (Or.inr (Or.inl h1)), h1] at hk
  refine va_bald hC.1 hC.2.1 hC.2.2.2.2.2.2.2.2.1 hR.2 k 2 hk rfl hin hd ?_
  rw [h3]
  exact w
theorem R_aZ {a : Nat} {i x : Int32} (hd : Dn M.2.1 pc .baload 1 q) (hg : aZ s a i = some x) (kk : R G M q L (.int x :: st) s o) : R G M pc L (.int i :: .ref a :: st) s o := by
  obtain ⟨hd, rfl⟩ := hd
  obtain ⟨v, hv, h2⟩ := bind_some hg
  obtain ⟨h1, hin, h3⟩ := atV_some hv
  rw [vI_some h2] at h3
  refine kk.stp fun p e Rm u m args below meth c H locs cells slots Q ls hC hR hS hl w => ?_
  obtain ⟨k, hk⟩ := wsO_at (G := G) (s := s) (hR.1.2.1 a (by omega))
  rw [toE_int (Or.inr (Or.inr h1)), h1] at hk
  refine va_zald hC.1 hC.2.1 hC.2.2.2.2.2.2.2.2.1 hR.2 k 3 hk rfl hin hd ?_
  rw [h3]
  exact w
theorem R_aL {a : Nat} {i : Int32} {x : Int64} (hd : Dn M.2.1 pc .laload 1 q) (hg : aL s a i = some x) (kk : R G M q L (.long x :: st) s o) : R G M pc L (.int i :: .ref a :: st) s o := by
  obtain ⟨hd, rfl⟩ := hd
  obtain ⟨v, hv, h2⟩ := bind_some hg
  obtain ⟨h1, hin, h3⟩ := atV_some hv
  rw [vL_some h2] at h3
  refine kk.stp fun p e Rm u m args below meth c H locs cells slots Q ls hC hR hS hl w => ?_
  obtain ⟨k, hk⟩ := wsO_at (G := G) (s := s) (hR.1.2.1 a (by omega))
  rw [toE_long h1] at hk
  refine va_lald hC.1 hC.2.1 hC.2.2.2.2.2.2.2.2.1 hR.2 k 1 hk rfl hin hd ?_
  rw [h3]
  exact w
end RH
