/-! stores into rows, new cells, copies, calls -/
section RS
variable {G : Gm} {M : Mt} {pc q : Nat} {L : List (Nat × Value)} {st : List Value} {s : Hp} {o : Option Value × Hp}
theorem R_sI {a : Nat} {i x : Int32} {s' : Hp} (hd : Dn M.2.1 pc .iastore 1 q) (hg : sI s a i x = some s') (kk : R G M q L st s' o) : R G M pc L (.int x :: .int i :: .ref a :: st) s o := by
  obtain ⟨hd, rfl⟩ := hd
  obtain ⟨h1, hin, rfl⟩ := stV_some hg
  refine R.wrt (a := a) kk (by omega) rfl fun p e Rm u m args below meth c H locs cells slots Q ls k hC hR hS hl hk w => ?_
  rw [toE_int (Or.inl h1), h1] at hk
  refine va_iast hC.1 hC.2.1 hC.2.2.2.2.2.2.2.2.1 hR.2 wsO_D hS k 0 hk rfl hin hd fun H1 locs1 hP1 _ hS1 => w H1 locs1 ?_ hS1
  rw [toE_int (c := ((s.2.2 a).1, (s.2.2 a).2.1, va_up (s.2.2 a).2.2 i.toNatClampNeg (.int x))) (Or.inl h1)]
  show va_P _ _ ((wsO G s).set k (a, .inl (G.2.2.1 (s.2.2 a).1, (s.2.2 a).2.1, .inl (fun j => toI (va_up (s.2.2 a).2.2 i.toNatClampNeg (.int x) j))))) H1
  rw [toI_up, h1]
  exact hP1
theorem R_sB {a : Nat} {i x : Int32} {s' : Hp} (hd : Dn M.2.1 pc .bastore 1 q) (hg : sB s a i x = some s') (kk : R G M q L st s' o) : R G M pc L (.int x :: .int i :: .ref a :: st) s o := by
  obtain ⟨hd, rfl⟩ := hd
  obtain ⟨h1, hin, rfl⟩ := stV_some hg
  refine R.wrt (a := a) kk (by omega) rfl fun p e Rm u m args below meth c H locs cells slots Q ls k hC hR hS hl hk w => ?_
  rw [toE_int (Or.inr (Or.inl h1)), h1] at hk
  refine va_bast hC.1 hC.2.1 hC.2.2.2.2.2.2.2.2.1 hR.2 wsO_D hS k 2 hk rfl hin hd fun H1 locs1 hP1 _ hS1 => w H1 locs1 ?_ hS1
  rw [toE_int (c := ((s.2.2 a).1, (s.2.2 a).2.1, va_up (s.2.2 a).2.2 i.toNatClampNeg (.int (i2b x)))) (Or.inr (Or.inl h1))]
  show va_P _ _ ((wsO G s).set k (a, .inl (G.2.2.1 (s.2.2 a).1, (s.2.2 a).2.1, .inl (fun j => toI (va_up (s.2.2 a).2.2 i.toNatClampNeg (.int (i2b x)) j))))) H1
  rw [toI_up, h1, show i2b x = vp_nar .byte x from (vp_nar_byte x).symm]
  exact hP1
theorem R_sZ {a : Nat} {i x : Int32} {s' : Hp} (hd : Dn M.2.1 pc .bastore 1 q) (hg : sZ s a i x = some s') (kk : R G M q L st s' o) : R G M pc L (.int x :: .int i :: .ref a :: st) s o := by
  obtain ⟨hd, rfl⟩ := hd
  unfold sZ at hg
  split at hg
  case isFalse => cases hg
  next hx =>
  obtain ⟨h1, hin, rfl⟩ := stV_some hg
  refine R.wrt (a := a) kk (by omega) rfl fun p e Rm u m args below meth c H locs cells slots Q ls k hC hR hS hl hk w => ?_
  rw [toE_int (Or.inr (Or.inr h1)), h1] at hk
  refine va_zast hC.1 hC.2.1 hC.2.2.2.2.2.2.2.2.1 hR.2 wsO_D hS k 3 hk rfl hin hd fun H1 locs1 hP1 _ hS1 => w H1 locs1 ?_ hS1
  rw [toE_int (c := ((s.2.2 a).1, (s.2.2 a).2.1, va_up (s.2.2 a).2.2 i.toNatClampNeg (.int x))) (Or.inr (Or.inr h1))]
  show va_P _ _ ((wsO G s).set k (a, .inl (G.2.2.1 (s.2.2 a).1, (s.2.2 a).2.1, .inl (fun j => toI (va_up (s.2.2 a).2.2 i.toNatClampNeg (.int x) j))))) H1
  have hx2 : vp_nar .boolean x = x := by rcases hx with rfl | rfl <;> rfl
  rw [hx2] at hP1
  rw [toI_up, h1]
  exact hP1
theorem R_sL {a : Nat} {i : Int32} {x : Int64} {s' : Hp} (hd : Dn M.2.1 pc .lastore 1 q) (hg : sL s a i x = some s') (kk : R G M q L st s' o) : R G M pc L (.long x :: .int i :: .ref a :: st) s o := by
  obtain ⟨hd, rfl⟩ := hd
  obtain ⟨h1, hin, rfl⟩ := stV_some hg
  refine R.wrt (a := a) kk (by omega) rfl fun p e Rm u m args below meth c H locs cells slots Q ls k hC hR hS hl hk w => ?_
  rw [toE_long h1] at hk
  refine va_last hC.1 hC.2.1 hC.2.2.2.2.2.2.2.2.1 hR.2 wsO_D hS k 1 hk rfl hin hd fun H1 locs1 hP1 _ hS1 => w H1 locs1 ?_ hS1
  rw [toE_long (c := ((s.2.2 a).1, (s.2.2 a).2.1, va_up (s.2.2 a).2.2 i.toNatClampNeg (.long x))) h1]
  show va_P _ _ ((wsO G s).set k (a, .inl (G.2.2.1 21, (s.2.2 a).2.1, .inr (.inl (fun j => toL (va_up (s.2.2 a).2.2 i.toNatClampNeg (.long x) j)))))) H1
  rw [toL_up]
  exact hP1
/-- the rows of objects: tag, place in tyO, class -/
def RT (t k ci : Nat) : Prop := (t = 24 ∧ k = 4 ∧ ci = 6) ∨ (t = 25 ∧ k = 5 ∧ ci = 5) ∨ (t = 26 ∧ k = 6 ∧ ci = 2)
theorem RT_ty {tA : Nat → ClassId} {t k ci : Nat} (h : RT t k ci) : 24 ≤ t ∧ t < 27 ∧ ci < 20 ∧ ∃ r : vw_C, vwCl[ci]? = some r ∧ (tyO tA)[k]? = some (tA t, .object r.1) := by
  rcases h with ⟨rfl, rfl, rfl⟩ | ⟨rfl, rfl, rfl⟩ | ⟨rfl, rfl, rfl⟩
  · exact ⟨by decide, by decide, by decide, _, rfl, rfl⟩
  · exact ⟨by decide, by decide, by decide, _, rfl, rfl⟩
  · exact ⟨by decide, by decide, by decide, _, rfl, rfl⟩
theorem va_rf_toR {v : Value} {x : Nat} (h : v = .ref x) : va_rf (toR v) = .ref x := by rw [h]; rfl
theorem R_aR {t kt ci a x : Nat} {i : Int32} (hT : RT t kt ci) (hd : Dn M.2.1 pc .aaload 1 q) (hg : aR s t a i = some x) (kk : R G M q L (.ref x :: st) s o) : R G M pc L (.int i :: .ref a :: st) s o := by
  obtain ⟨hd, rfl⟩ := hd
  obtain ⟨v, hv, h2⟩ := bind_some hg
  obtain ⟨h1, hin, h3⟩ := atV_some hv
  rw [vR_some h2] at h3
  refine kk.stp fun p e Rm u m args below meth c H locs cells slots Q ls hC hR hS hl w => ?_
  obtain ⟨t1, t2, t3, r, hr, hty⟩ := RT_ty (tA := G.2.2.1) hT
  obtain ⟨k, hk⟩ := wsO_at (G := G) (s := s) (hR.1.2.1 a (by omega))
  rw [toE_ref (by omega), h1] at hk
  refine va_aldq hC.1 hC.2.1 hC.2.2.2.2.2.2.2.2.1 hR.2 k kt hk hty hin hd ?_
  rw [va_rf_toR h3]
  exact w
theorem R_sR {t kt ci a x : Nat} {i : Int32} {s' : Hp} (hT : RT t kt ci) (hd : Dn M.2.1 pc .aastore 1 q) (hg : sR s t ci a i x = some s') (kk : R G M q L st s' o) : R G M pc L (.ref x :: .int i :: .ref a :: st) s o := by
  obtain ⟨hd, rfl⟩ := hd
  unfold sR at hg
  split at hg
  case isFalse => cases hg
  next hx =>
  obtain ⟨h1, hin, rfl⟩ := stV_some hg
  obtain ⟨t1, t2, t3, r, hr, hty⟩ := RT_ty (tA := G.2.2.1) hT
  refine R.wrt (a := a) kk (by omega) rfl fun p e Rm u m args below meth c H locs cells slots Q ls k hC hR hS hl hk w => ?_
  obtain ⟨k2, hk2⟩ := wsO_at (G := G) (s := s) (hR.1.2.1 x (by omega))
  rw [toE_ref (by omega), h1] at hk
  rw [toE_obj (by omega), hx] at hk2
  refine va_astq hC.1 hC.2.1 hC.2.2.2.2.2.2.2.2.1 hR.2 wsO_D hS k kt k2 ci hk hty hk2 hr hin hd fun H1 locs1 hP1 _ hS1 => w H1 locs1 ?_ hS1
  rw [toE_ref (by show 24 ≤ (s.2.2 a).1; omega)]
  show va_P _ _ ((wsO G s).set k (a, .inl (G.2.2.1 (s.2.2 a).1, (s.2.2 a).2.1, .inr (.inr (.inr (.inr (fun j => toR (va_up (s.2.2 a).2.2 i.toNatClampNeg (.ref x) j)))))))) H1
  rw [toR_up, h1]
  exact hP1
theorem R_aN {a : Nat} {x : Int32} (hd : Dn M.2.1 pc .arraylength 1 q) (hg : aN s a = some x) (kk : R G M q L (.int x :: st) s o) : R G M pc L (.ref a :: st) s o := by
  obtain ⟨hd, rfl⟩ := hd
  unfold aN at hg
  split at hg
  case isFalse => cases hg
  next ht =>
  have hx := Option.some.inj hg
  refine kk.stp fun p e Rm u m args below meth c H locs cells slots Q ls hC hR hS hl w => ?_
  obtain ⟨k, hk⟩ := wsO_at (G := G) (s := s) (hR.1.2.1 a (by omega))
  have hK := hC.2.2.2.2.2.2.2.2.1
  rcases (show (s.2.2 a).1 = 20 ∨ (s.2.2 a).1 = 21 ∨ (s.2.2 a).1 = 22 ∨ (s.2.2 a).1 = 23 ∨ (s.2.2 a).1 = 24 ∨ (s.2.2 a).1 = 25 ∨ (s.2.2 a).1 = 26 by omega) with h | h | h | h | h | h | h
  · rw [toE_int (Or.inl h), h] at hk
    exact va_alen hC.1 hC.2.1 hK hR.2 k 0 hk rfl hx hd w
  · rw [toE_long h] at hk
    exact va_alen hC.1 hC.2.1 hK hR.2 k 1 hk rfl hx hd w
  · rw [toE_int (Or.inr (Or.inl h)), h] at hk
    exact va_alen hC.1 hC.2.1 hK hR.2 k 2 hk rfl hx hd w
  · rw [toE_int (Or.inr (Or.inr h)), h] at hk
    exact va_alen hC.1 hC.2.1 hK hR.2 k 3 hk rfl hx hd w
  · rw [toE_ref (by omega), h] at hk
    exact va_alen hC.1 hC.2.1 hK hR.2 k 4 hk rfl hx hd w
  · rw [toE_ref (by omega), h] at hk
    exact va_alen hC.1 hC.2.1 hK hR.2 k 5 hk rfl hx hd w
  · rw [toE_ref (by omega), h] at hk
    exact va_alen hC.1 hC.2.1 hK hR.2 k 6 hk rfl hx hd w
/-- the law's own script -/
def xI (n : Nat) (xs : Nat → Int32) (i : Int32) : Option Int32 := if ¬ (i < 0 ∨ n ≤ i.toNatClampNeg) then some (xs i.toNatClampNeg) else none
theorem R_xI {i x : Int32} (hd : Dn M.2.1 pc .iaload 1 q) (hg : xI (gN G) (gX G) i = some x) (kk : R G M q L (.int x :: st) s o) : R G M pc L (.int i :: .ref (gS G) :: st) s o := by
  obtain ⟨hd, rfl⟩ := hd
  unfold xI at hg
  split at hg
  case isFalse => cases hg
  next hin =>
  have hx := Option.some.inj hg
  refine kk.stp fun p e Rm u m args below meth c H locs cells slots Q ls hC hR hS hl w => ?_
  obtain ⟨-, h2, ⟨h3, h4⟩, -⟩ := hC.2.2.2.2.2.2.2.2
  refine va_sld hC.1 hC.2.1 h3 (Nat.lt_of_lt_of_le h4 h2) (Nat.not_le.mpr h4) hS hin hd ?_
  rw [hx]
  exact w
theorem R_xN (hd : Dn M.2.1 pc .arraylength 1 q) (kk : R G M q L (.int (Int32.ofNat (gN G)) :: st) s o) : R G M pc L (.ref (gS G) :: st) s o := by
  obtain ⟨hd, rfl⟩ := hd
  refine kk.stp fun p e Rm u m args below meth c H locs cells slots Q ls hC hR hS hl w => ?_
  obtain ⟨-, h2, ⟨h3, h4⟩, -⟩ := hC.2.2.2.2.2.2.2.2
  exact va_slen hC.1 hC.2.1 h3 (Nat.lt_of_lt_of_le h4 h2) (Nat.not_le.mpr h4) hS hd w
theorem OKs_mk {G : Gm} {s : Hp} {c : PC} (h : OKs G s) (hc : c.1 < 40) : OKs G (mk s c) := by
  refine ⟨Nat.le_succ_of_le h.1, fun b hb => ?_, fun b hb => ?_⟩
  · by_cases e : b = s.1
    · subst e
      exact ⟨h.1, Nat.lt_succ_self _⟩
    · have h2 : ((mk s c).2.2 b) = s.2.2 b := by simp [mk, va_up, e]
      rw [h2] at hb
      exact ⟨(h.2.1 b hb).1, Nat.lt_succ_of_lt (h.2.1 b hb).2⟩
  · by_cases e : b = s.1
    · subst e
      have h2 : ((mk s c).2.2 s.1) = c := by simp [mk, va_up]
      rw [h2] at hb
      omega
    · have h2 : ((mk s c).2.2 b) = s.2.2 b := by simp [mk, va_up, e]
      rw [h2] at hb ⊢
      exact h.2.2 b hb
theorem wsO_mk {G : Gm} {s : Hp} {c : PC} (h : gB G ≤ s.1) : wsO G s ++ [(s.1, toE G.2.2.1 c)] = wsO G (mk s c) := by
  have h1 : wsO G s ++ [(s.1, toE G.2.2.1 c)] = va_pl (AL (gB G) s.1 ++ [s.1]) (va_up (fun a => toE G.2.2.1 (s.2.2 a)) s.1 (toE G.2.2.1 c)) := va_pl_push (fun hm => by have := AL_mem.mp hm; omega)
  rw [h1, ← AL_push h]
  apply va_pl_congr
  intro b
  by_cases hb : b = s.1
  · subst hb
    simp [va_up, mk]
  · simp [va_up, mk, hb]
/-- a new cell stands at the next address -/
theorem new_at {p : Program} {l : Launch} {e : Env} {Rm : Room} {G : Gm} {s : Hp} {u : State} {m : MethodId} {args : Array Value} {below : List Frame} {meth : Method} {c : Code} {T : State} {locs : List Loc} {slots : Nat} {H1 : Heap} {x : Nat} {ev : va_E}
    (hn : u.heap.size ≤ s.1) (hD : va_D (Af G) (wsO G s ++ [(x, ev)])) (hP : va_P G.2.1 vwCl (wsO G s ++ [(x, ev)]) H1) (hT : T.heap = H1) (X : Stand p l e Rm u m args below meth c T locs (s.1 - u.heap.size + 1) slots) : x = s.1 := by
  have hl : (wsO G s ++ [(x, ev)])[(wsO G s).length]? = some (x, ev) := by simp
  have h1 : x < H1.size := (hP _ _ hl).lt
  have h2 := X.heapSize
  rw [hT] at h2
  have h3 : gB G ≤ x := hD.2 _ _ hl
  by_cases hc : x < s.1
  · exfalso
    obtain ⟨k, hk⟩ := wsO_at (G := G) (s := s) ⟨h3, hc⟩
    have hkl : k < (wsO G s).length := (List.getElem?_eq_some_iff.mp hk).1
    have hk2 : (wsO G s ++ [(x, ev)])[k]? = some (x, toE G.2.2.1 (s.2.2 x)) := by rw [List.getElem?_append_left hkl]; exact hk
    have := hD.1 k _ _ _ hk2 hl rfl
    omega
  · omega
/-- a class that is made: its number, size and what it holds at first -/
def NC (own : String) (i ci N : Nat) (f : Nat → Value) : Prop := ∃ (C : String) (T : u_T) (ty : Nat → FieldType), vwCl[ci]? = some (C, T, N) ∧ ci < 20 ∧ (∀ w ∈ u_ws C T N, w ∈ TB) ∧ (∀ k, k < N → parseFieldDescriptor (T k).2.2.1 = some (ty k)) ∧ Cond.classLink own i C ∈ TB ∧ Cond.instantiable C N ∈ TB ∧ Cond.initialized C ∈ TB ∧ ∀ k, k < N → defaultValue (ty k) = f k
theorem R_new {i ci N : Nat} {f : Nat → Value} (hd : Dn M.2.1 pc (.new i) 3 q) (hc : NC M.1.cls i ci N f) (kk : R G M q L (.ref s.1 :: st) (mk s (ci, N, f)) o) : R G M pc L st s o := by
  obtain ⟨hd, rfl⟩ := hd
  obtain ⟨C, T, ty, g1, g2, g3, g4, g5, g6, g7, g8⟩ := hc
  have k1 : s.1 + 1 ≤ o.2.1 := kk.1.1
  have k2 : s.2.1 + N ≤ o.2.2.1 := kk.1.2
  refine ⟨⟨by omega, by omega⟩, fun p e u m args below meth c H locs ls k0 hC hn hk hR hS hl => ?_⟩
  have hb := hC.2.2.2.2.2.2.2.2.2.1
  refine va_new (fs := (List.range N).map f) hC.1 hC.2.1 (hC.2.2.2.2.2.1) g3 ty g4 hC.2.2.2.2.1 (hC.2.2.2.2.2.1 _ g5) (hC.2.2.2.2.2.1 _ g6) (hC.2.2.2.2.2.1 _ g7) hC.2.2.2.2.2.2.2.2.1 hR.2 wsO_D hS (fun x h => Nat.le_trans hb h) g1 (fun j hj => ?_) ?_ ?_ hd fun x H1 hP1 hD1 hS1 => ?_
  · rw [g8 j hj]
    simp [vp_V, hj]
  · show s.1 - u.heap.size + 1 ≤ o.2.1 - u.heap.size
    omega
  · show s.2.1 - k0 + N ≤ o.2.2.1 - k0
    omega
  · intro T' hT' X'
    have hx : x = s.1 := new_at hn hD1 hP1 hT' X'
    subst hx
    have e1 : (Sum.inr (ci, (List.range N).map f) : va_E) = toE G.2.2.1 (ci, N, f) := (toE_obj (c := (ci, N, f)) g2).symm
    rw [e1, wsO_mk hR.1.1] at hP1
    have h := kk.2 p e u m args below meth c H1 locs ls k0 hC (Nat.le_succ_of_le hn) (Nat.le_trans hk (Nat.le_add_right _ _)) ⟨OKs_mk hR.1 (by show ci < 40; omega), hP1⟩ hS1 hl
    refine h T' hT' ?_
    have z1 : (mk s (ci, N, f)).1 - u.heap.size = s.1 - u.heap.size + 1 := by show s.1 + 1 - u.heap.size = _; omega
    have z2 : (mk s (ci, N, f)).2.1 - k0 = s.2.1 - k0 + N := by show s.2.1 + N - k0 = _; omega
    rw [z1, z2]
    exact X'
/-- a kind of plain row: its tag, the machine's type, its place in tyO, what it holds at first -/
def AT (t : Nat) (at_ : ArrayType) (k : Nat) (v : Value) : Prop := (t = 20 ∧ at_ = .int ∧ k = 0 ∧ v = .int 0) ∨ (t = 21 ∧ at_ = .long ∧ k = 1 ∧ v = .long 0) ∨ (t = 22 ∧ at_ = .byte ∧ k = 2 ∧ v = .int 0) ∨ (t = 23 ∧ at_ = .boolean ∧ k = 3 ∧ v = .int 0)
theorem AT_ok {t : Nat} {at_ : ArrayType} {k : Nat} {v : Value} (h : AT t at_ k v) (tA : Nat → ClassId) (n : Nat) : t < 24 ∧ (tyO tA)[k]? = some (tA t, newarray.typeOf at_) ∧ n ≤ 60000 → n * componentBytes (newarray.typeOf at_) ≤ 536870912 := by
  intro hh
  have h3 := hh.2.2
  rcases h with ⟨-, rfl, -⟩ | ⟨-, rfl, -⟩ | ⟨-, rfl, -⟩ | ⟨-, rfl, -⟩ <;> (simp only [newarray.typeOf, componentBytes]; omega)
end RS
