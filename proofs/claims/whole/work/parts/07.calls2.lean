/-! new rows, copies, calls -/
section RC
variable {G : Gm} {M : Mt} {pc q : Nat} {L : List (Nat × Value)} {st : List Value} {s : Hp} {o : Option Value × Hp}
theorem AT_ty {t : Nat} {at_ : ArrayType} {k : Nat} {v : Value} (h : AT t at_ k v) (tA : Nat → ClassId) : t < 24 ∧ 20 ≤ t ∧ (tyO tA)[k]? = some (tA t, newarray.typeOf at_) ∧ (∃ sg : String, ∀ (U : State) (cA : ClassId), va_RA U cA (newarray.typeOf at_) ↔ U.vm.findClass ("[" ++ sg) = some cA) := by
  rcases h with ⟨rfl, rfl, rfl, -⟩ | ⟨rfl, rfl, rfl, -⟩ | ⟨rfl, rfl, rfl, -⟩ | ⟨rfl, rfl, rfl, -⟩ <;> exact ⟨by decide, by decide, rfl, _, fun U cA => Iff.rfl⟩
theorem R_newa {t : Nat} {at_ : ArrayType} {kt : Nat} {v : Value} {n : Int32} {s' : Hp} (hA : AT t at_ kt v) (hw : Cond.arrayClass (newarray.typeOf at_) ∈ TB) (hd : Dn M.2.1 pc (.newarray at_) 2 q) (hg : mkA s t n v = some s') (kk : R G M q L (.ref s.1 :: st) s' o) : R G M pc L (.int n :: st) s o := by
  obtain ⟨hd, rfl⟩ := hd
  unfold mkA at hg
  split at hg
  case isFalse => cases hg
  next hn0 =>
  have hs := Option.some.inj hg
  subst hs
  obtain ⟨hn0, hn1⟩ := hn0
  obtain ⟨a1, a2, a3, sg, a4⟩ := AT_ty hA G.2.2.1
  have hby := AT_ok hA G.2.2.1 n.toNatClampNeg ⟨a1, a3, hn1⟩
  have k1 : s.1 + 1 ≤ o.2.1 := kk.1.1
  have k2 : s.2.1 + n.toNatClampNeg ≤ o.2.2.1 := kk.1.2
  refine ⟨⟨by omega, by omega⟩, fun p e u m args below meth c H locs ls k0 hC hn hk hR hS hl => ?_⟩
  have hb := hC.2.2.2.2.2.2.2.2.2.1
  have hK := hC.2.2.2.2.2.2.2.2.1
  have key : ∀ a0 : vp_A, (∀ cA : ClassId, vp_cell cA a0 = arrV cA n.toNatClampNeg (fun _ => defaultValue (newarray.typeOf at_))) → (∀ tA : Nat → ClassId, (Sum.inl (tA t, a0) : va_E) = toE tA (t, n.toNatClampNeg, fun _ => v)) →
      W p G.1 e (rmM M (o.2.1 - u.heap.size) (o.2.2.1 - k0)) u m args below meth c H locs (s.1 - u.heap.size) (s.2.1 - k0) (MQ below (Qo G o) args u (o.2.1 - u.heap.size) (o.2.2.1 - k0) (Af G)) (F0 m pc ls (.int n :: st)) := by
    intro a0 h1 h2
    refine va_newa (atype := at_) hC.1 hC.2.1 (hC.2.2.2.2.2.1 _ hw) rfl hK hR.2 wsO_D hS (fun x h => Nat.le_trans hb h) (a0 := a0) h1 hn0 rfl hby ?_ ?_ hd fun x cA H1 hK1 hP1 hD1 hS1 => ?_
    · show s.1 - u.heap.size + 1 ≤ o.2.1 - u.heap.size
      omega
    · show s.2.1 - k0 + n.toNatClampNeg ≤ o.2.2.1 - k0
      omega
    · intro T' hT' X'
      have hx : x = s.1 := new_at hn hD1 hP1 hT' X'
      subst hx
      have hcA : cA = G.2.2.1 t := by
        have e1 := (a4 u _).mp (hK.2 kt _ a3).2
        have e2 := (a4 u _).mp (hK1.2 (tyO G.2.2.1).length (cA, newarray.typeOf at_) (by simp)).2
        exact Option.some.inj (e2.symm.trans e1)
      subst hcA
      rw [h2 G.2.2.1, wsO_mk hR.1.1] at hP1
      have h := kk.2 p e u m args below meth c H1 locs ls k0 hC (Nat.le_succ_of_le hn) (Nat.le_trans hk (Nat.le_add_right _ _)) ⟨OKs_mk hR.1 (by show t < 40; omega), hP1⟩ hS1 hl
      refine h T' hT' ?_
      have z1 : (mk s (t, n.toNatClampNeg, fun _ => v)).1 - u.heap.size = s.1 - u.heap.size + 1 := by show s.1 + 1 - u.heap.size = _; omega
      have z2 : (mk s (t, n.toNatClampNeg, fun _ => v)).2.1 - k0 = s.2.1 - k0 + n.toNatClampNeg := by show s.2.1 + n.toNatClampNeg - k0 = _; omega
      rw [z1, z2]
      exact X'
  rcases hA with ⟨rfl, rfl, -, rfl⟩ | ⟨rfl, rfl, -, rfl⟩ | ⟨rfl, rfl, -, rfl⟩ | ⟨rfl, rfl, -, rfl⟩
  · exact key (n.toNatClampNeg, .inl (fun _ => 0)) (fun cA => rfl) (fun tA => rfl)
  · exact key (n.toNatClampNeg, .inr (.inl (fun _ => 0))) (fun cA => rfl) (fun tA => rfl)
  · exact key (n.toNatClampNeg, .inl (fun _ => 0)) (fun cA => rfl) (fun tA => rfl)
  · exact key (n.toNatClampNeg, .inl (fun _ => 0)) (fun cA => rfl) (fun tA => rfl)
theorem R_newq {t kt ci i : Nat} {n : Int32} {s' : Hp} {C : String} (hT : RT t kt ci) (hCl : (∃ T, vwCl[ci]? = some (C, T))) (hw : Cond.classLink M.1.cls i C ∈ TB) (hd : Dn M.2.1 pc (.anewarray i) 3 q) (hg : mkA s t n .null = some s') (kk : R G M q L (.ref s.1 :: st) s' o) : R G M pc L (.int n :: st) s o := by
  obtain ⟨hd, rfl⟩ := hd
  unfold mkA at hg
  split at hg
  case isFalse => cases hg
  next hn0 =>
  have hs := Option.some.inj hg
  subst hs
  obtain ⟨hn0, hn1⟩ := hn0
  obtain ⟨a1, a2, a3, r, a4, a5⟩ := RT_ty (tA := G.2.2.1) hT
  obtain ⟨T, hT2⟩ := hCl
  have hrC : r.1 = C := by
    have := a4.symm.trans hT2
    rw [Option.some.inj this]
  have k1 : s.1 + 1 ≤ o.2.1 := kk.1.1
  have k2 : s.2.1 + n.toNatClampNeg ≤ o.2.2.1 := kk.1.2
  refine ⟨⟨by omega, by omega⟩, fun p e u m args below meth c H locs ls k0 hC hn hk hR hS hl => ?_⟩
  have hb := hC.2.2.2.2.2.2.2.2.2.1
  have hK := hC.2.2.2.2.2.2.2.2.1
  have hAO : va_AO C u := by
    obtain ⟨o1, o2, o3⟩ := hC.2.2.2.2.2.2.2.2.2.2.2.2.1
    rw [← hrC]
    rcases hT with ⟨-, -, rfl⟩ | ⟨-, -, rfl⟩ | ⟨-, -, rfl⟩
    · rw [← Option.some.inj a4]; exact o1
    · rw [← Option.some.inj a4]; exact o2
    · rw [← Option.some.inj a4]; exact o3
  refine va_newq hC.1 hC.2.1 hC.2.2.2.2.1 (hC.2.2.2.2.2.1 _ hw) hAO hK hR.2 wsO_D hS (fun x h => Nat.le_trans hb h) hn0 rfl (by omega) ?_ ?_ hd fun x cA H1 hK1 hP1 hD1 hS1 => ?_
  · show s.1 - u.heap.size + 1 ≤ o.2.1 - u.heap.size
    omega
  · show s.2.1 - k0 + n.toNatClampNeg ≤ o.2.2.1 - k0
    omega
  · intro T' hT' X'
    have hx : x = s.1 := new_at hn hD1 hP1 hT' X'
    subst hx
    have hcA : cA = G.2.2.1 t := by
      obtain ⟨-, -, -, -, -, e1⟩ := (hK.2 kt _ a5).2
      obtain ⟨-, -, -, -, -, e2⟩ := (hK1.2 (tyO G.2.2.1).length (cA, .object C) (by simp)).2
      rw [hrC] at e1
      exact Option.some.inj (e2.symm.trans e1)
    subst hcA
    have h2 : (Sum.inl (G.2.2.1 t, n.toNatClampNeg, .inr (.inr (.inr (.inr (fun _ => none))))) : va_E) = toE G.2.2.1 (t, n.toNatClampNeg, fun _ => .null) := (toE_ref (c := (t, n.toNatClampNeg, fun _ => Value.null)) a1).symm
    rw [h2, wsO_mk hR.1.1] at hP1
    have h := kk.2 p e u m args below meth c H1 locs ls k0 hC (Nat.le_succ_of_le hn) (Nat.le_trans hk (Nat.le_add_right _ _)) ⟨OKs_mk hR.1 (by show t < 40; omega), hP1⟩ hS1 hl
    refine h T' hT' ?_
    have z1 : (mk s (t, n.toNatClampNeg, fun _ => Value.null)).1 - u.heap.size = s.1 - u.heap.size + 1 := by show s.1 + 1 - u.heap.size = _; omega
    have z2 : (mk s (t, n.toNatClampNeg, fun _ => Value.null)).2.1 - k0 = s.2.1 - k0 + n.toNatClampNeg := by show s.2.1 + n.toNatClampNeg - k0 = _; omega
    rw [z1, z2]
    exact X'
theorem toI_cpy {f g : Nat → Value} {sp dp n : Nat} : (fun j => toI (va_cpy f g sp dp n j)) = va_cpy (fun j => toI (f j)) (fun j => toI (g j)) sp dp n := by
  funext j
  unfold va_cpy
  split <;> rfl
theorem toL_cpy {f g : Nat → Value} {sp dp n : Nat} : (fun j => toL (va_cpy f g sp dp n j)) = va_cpy (fun j => toL (f j)) (fun j => toL (g j)) sp dp n := by
  funext j
  unfold va_cpy
  split <;> rfl
theorem R.wrt2 {pc' : Nat} {st' : List Value} {a : Nat} {c' : PC} (kk : R G M pc' L st' (cu s a c') o) (ht : (s.2.2 a).1 < 40) (hc : c'.1 = (s.2.2 a).1)
    (h : ∀ (p : Program) (e : Env) (Rm : Room) (u : State) (m : MethodId) (args : Array Value) (below : List Frame) (meth : Method) (c : Code) (H : Heap) (locs : List Loc) (cells slots : Nat) (Q : State → Prop) (ls : Array Slot) (k : Nat), Rm.frames = M.2.2.2.2.1 ∧ Rm.locals = M.2.2.2.2.2 →
      Cx G M p u m args meth c → Rep G s H → va_S (Af G) u.heap H locs → lv_has ls M.2.2.1 L → (wsO G s)[k]? = some (a, toE G.2.2.1 (s.2.2 a)) →
      (∀ (H1 : Heap) (locs1 : List Loc), va_P G.2.1 vwCl ((wsO G s).set k (a, toE G.2.2.1 c')) H1 → va_S (Af G) u.heap H1 locs1 → W p G.1 e Rm u m args below meth c H1 locs1 cells slots Q (F0 m pc' ls st')) → W p G.1 e Rm u m args below meth c H locs cells slots Q (F0 m pc ls st)) : R G M pc L st s o := by
  refine ⟨kk.1, fun p e u m args below meth c H locs ls k0 hC hn hk hR hS hl => ?_⟩
  have ha := hR.1.2.1 a ht
  obtain ⟨k, hkk⟩ := wsO_at (G := G) (s := s) ha
  refine h p e _ u m args below meth c H locs _ _ _ ls k ⟨rfl, rfl⟩ hC hR hS hl hkk fun H1 locs1 hP1 hS1 => ?_
  refine kk.2 p e u m args below meth c H1 locs1 ls k0 hC hn hk ⟨OKs_cu hR.1 hc ht, ?_⟩ hS1 hl
  rw [← wsO_set c' ha hkk rfl]
  exact hP1
def WC (own : String) (i : Nat) : Prop := Cond.methodLink own i arraycopyName ∈ TB ∧ Cond.native arraycopyName ∈ TB ∧ Cond.static arraycopyName ∈ TB ∧ Cond.initialized "java/lang/System" ∈ TB
theorem R_cpI {a0 a i : Nat} {sp dp n : Int32} {s' : Hp} (hd : Dn M.2.1 pc (.invokestatic i) 3 q) (hw : WC M.1.cls i) (hr : 1 ≤ M.2.2.2.2.1 ∧ (st.map fun v => v.category).sum + (nativeFrameWords "java/lang/System" "arraycopy" 5 + 11) ≤ M.2.2.2.2.2) (hg : cpV s 20 a0 sp a dp n = some s') (kk : R G M q L st s' o) : R G M pc L (.int n :: .int dp :: .ref a :: .int sp :: .ref a0 :: st) s o := by
  obtain ⟨hd, rfl⟩ := hd
  unfold cpV at hg
  split at hg
  case isFalse => cases hg
  next hh =>
  have hs := Option.some.inj hg
  subst hs
  obtain ⟨h0, h1, h2, h3, h4, h5, h6⟩ := hh
  obtain ⟨w1, w2, w3, w4⟩ := hw
  refine R.wrt2 (a := a) kk (by omega) h1.symm fun p e Rm u m args below meth c H locs cells slots Q ls k hRm hC hR hS hl hk w => ?_
  obtain ⟨k2, hk2⟩ := wsO_at (G := G) (s := s) (hR.1.2.1 a0 (by omega))
  rw [toE_int (Or.inl h1), h1] at hk
  rw [toE_int (Or.inl h0), h0] at hk2
  refine va_copyi hC.1 hC.2.1 (hC.2.2.2.1.trans hl.1.symm) hC.2.2.2.2.1 (hC.2.2.2.2.2.1 _ w1) (hC.2.2.2.2.2.1 _ w2) (hC.2.2.2.2.2.1 _ w3) (hC.2.2.2.2.2.1 _ w4) hC.2.2.2.2.2.2.2.2.1 hR.2 wsO_D hS k2 k 0 0 (ty := .int) hk2 hk rfl rfl rfl h2 h3 h4 h5 h6 (fun _ _ => rfl) (by rw [hRm.1]; exact hr.1) (by rw [hRm.2]; exact hr.2) hd fun H1 locs1 hP1 _ hS1 => w H1 locs1 ?_ hS1
  rw [toE_int (c := (20, (s.2.2 a).2.1, va_cpy (s.2.2 a0).2.2 (s.2.2 a).2.2 sp.toNatClampNeg dp.toNatClampNeg n.toNatClampNeg)) (Or.inl rfl)]
  show va_P _ _ ((wsO G s).set k (a, .inl (G.2.2.1 20, (s.2.2 a).2.1, .inl (fun j => toI (va_cpy (s.2.2 a0).2.2 (s.2.2 a).2.2 sp.toNatClampNeg dp.toNatClampNeg n.toNatClampNeg j))))) H1
  rw [toI_cpy]
  exact hP1
theorem R_cpL {a0 a i : Nat} {sp dp n : Int32} {s' : Hp} (hd : Dn M.2.1 pc (.invokestatic i) 3 q) (hw : WC M.1.cls i) (hr : 1 ≤ M.2.2.2.2.1 ∧ (st.map fun v => v.category).sum + (nativeFrameWords "java/lang/System" "arraycopy" 5 + 11) ≤ M.2.2.2.2.2) (hg : cpV s 21 a0 sp a dp n = some s') (kk : R G M q L st s' o) : R G M pc L (.int n :: .int dp :: .ref a :: .int sp :: .ref a0 :: st) s o := by
  obtain ⟨hd, rfl⟩ := hd
  unfold cpV at hg
  split at hg
  case isFalse => cases hg
  next hh =>
  have hs := Option.some.inj hg
  subst hs
  obtain ⟨h0, h1, h2, h3, h4, h5, h6⟩ := hh
  obtain ⟨w1, w2, w3, w4⟩ := hw
  refine R.wrt2 (a := a) kk (by omega) h1.symm fun p e Rm u m args below meth c H locs cells slots Q ls k hRm hC hR hS hl hk w => ?_
  obtain ⟨k2, hk2⟩ := wsO_at (G := G) (s := s) (hR.1.2.1 a0 (by omega))
  rw [toE_long h1] at hk
  rw [toE_long h0] at hk2
  refine va_copyl hC.1 hC.2.1 (hC.2.2.2.1.trans hl.1.symm) hC.2.2.2.2.1 (hC.2.2.2.2.2.1 _ w1) (hC.2.2.2.2.2.1 _ w2) (hC.2.2.2.2.2.1 _ w3) (hC.2.2.2.2.2.1 _ w4) hC.2.2.2.2.2.2.2.2.1 hR.2 wsO_D hS k2 k 1 1 (ty := .long) hk2 hk rfl rfl rfl h2 h3 h4 h5 h6 (fun _ _ => rfl) (by rw [hRm.1]; exact hr.1) (by rw [hRm.2]; exact hr.2) hd fun H1 locs1 hP1 _ hS1 => w H1 locs1 ?_ hS1
  rw [toE_long (c := (21, (s.2.2 a).2.1, va_cpy (s.2.2 a0).2.2 (s.2.2 a).2.2 sp.toNatClampNeg dp.toNatClampNeg n.toNatClampNeg)) rfl]
  show va_P _ _ ((wsO G s).set k (a, .inl (G.2.2.1 21, (s.2.2 a).2.1, .inr (.inl (fun j => toL (va_cpy (s.2.2 a0).2.2 (s.2.2 a).2.2 sp.toNatClampNeg dp.toNatClampNeg n.toNatClampNeg j)))))) H1
  rw [toL_cpy]
  exact hP1
def oiW (own : String) (i : Nat) : Prop := Cond.methodLink own i objectInit ∈ TB ∧ Cond.instanceMethod objectInit ∈ TB ∧ Cond.code objectInit ⟨#[0xb1]⟩ 1 none ∈ TB
theorem R_objInit {a i : Nat} (hd : Dn M.2.1 pc (.invokespecial i) 3 q) (hw : oiW M.1.cls i) (hr : 1 ≤ M.2.2.2.2.1 ∧ (st.map fun v => v.category).sum + 12 ≤ M.2.2.2.2.2) (kk : R G M q L st s o) : R G M pc L (.ref a :: st) s o := by
  obtain ⟨hd, rfl⟩ := hd
  refine ⟨kk.1, fun p e u m args below meth c H locs ls k0 hC hn hk hR hS hl => ?_⟩
  refine W.objInit hC.1 hC.2.1 hC.2.2.2.2.1 (hC.2.2.2.2.2.1 _ hw.1) (hC.2.2.2.2.2.1 _ hw.2.1) (hC.2.2.2.2.2.1 _ hw.2.2) rfl (hl.1.trans hC.2.2.2.1.symm) rfl hd hr.1 ?_ ?_
  · show 2 * 0 + _ + 12 ≤ M.2.2.2.2.2
    have := hr.2
    omega
  · exact kk.2 p e u m args below meth c H locs ls k0 hC hn hk hR hS hl
theorem run_go {p : Program} {e : Env} {Rm : Room} {u : State} {m : MethodId} {args : Array Value} {below : List Frame} {meth : Method} {c : Code} {H : Heap} {locs : List Loc} {cells slots mc ms : Nat} {Q : State → Prop} {ls : Array Slot} {st0 rest : List Value} {a : Array Value} {v : Option Value} {s1 : Hp}
    (hr : va_Run p G.1 e Rm u m args below meth c H locs cells slots mc ms (F0 m pc ls st0) rest (Qo G (v, s1) a) (Af G)) (hS : va_S (Af G) u.heap H locs)
    (kk : ∀ (H1 : Heap) (locs1 : List Loc), Rep G s1 H1 → va_S (Af G) u.heap H1 locs1 → W p G.1 e Rm u m args below meth c H1 locs1 (cells + mc) (slots + ms) Q (F0 m (pc + 3) ls (v.toList ++ rest))) : W p G.1 e Rm u m args below meth c H locs cells slots Q (F0 m pc ls st0) := by
  intro T hT X
  obtain ⟨v1, st₀, t, T', L', h0, X', hL, e1, e2, ⟨hv, hR1, hz, hk⟩, stp⟩ := hr T hT X
  cases hv
  rw [h0] at hz hk
  obtain ⟨t2, a1, b1⟩ := kk T'.heap (locs ++ L') (by rw [e1]; exact hR1)
    ⟨Nat.le_trans hS.1 (by rw [e1]; exact hz), fun x h1 h2 => by rw [e1, hk x (Nat.lt_of_lt_of_le h1 hS.1) h2]; exact hS.2.1 x h1 h2, fun x hx => by
      rcases List.mem_append.mp hx with h | h
      · exact hS.2.2 x h
      · exact hL x h⟩ T' rfl X'
  exact ⟨t2, stp t2 a1, b1⟩
/-- what a call of z in a method of room (fr, lo) wants of the words -/
def KB (fr lo : Nat) (z : Mt) (n : Nat) : Prop := Cond.code z.1 z.2.1 z.2.2.1 z.2.2.2.1 ∈ TB ∧ Cond.initialized z.1.cls ∈ TB ∧ z.1.cls ≠ "java/lang/invoke/MethodHandle" ∧ z.1.cls ≠ "java/lang/invoke/VarHandle" ∧ (parseMethodDescriptor z.1.desc).map (fun d => d.parameters.length) = some n ∧ z.2.2.2.2.1 + 1 ≤ fr ∧ 8 + (z.2.2.1 + 11) + z.2.2.2.2.2 ≤ lo
theorem KB_good {fr lo n : Nat} {z : Mt} (h : KB fr lo z n) : GoodIn TB (wsM z) := fun w hw => by
  rcases List.mem_cons.mp hw with rfl | hw
  · exact TB_good _ h.1
  · exact TB_good w hw
theorem Po_blind {av : List Value} : FrameBlind (Po G av s) := fun a U g mk h => ⟨h.1, h.2.1, h.2.2.1, h.2.2.2.calling⟩
theorem Po_at {p : Program} {e : Env} {Rm : Room} {u : State} {m : MethodId} {args : Array Value} {below : List Frame} {meth : Method} {c : Code} {H : Heap} {locs : List Loc} {slots : Nat} {T : State} {av : List Value} (hE : Ext G u) (hn : u.heap.size ≤ s.1) (hR : Rep G s H) (hS : va_S (Af G) u.heap H locs) (hT : T.heap = H) (X : Stand p G.1 e Rm u m args below meth c T locs (s.1 - u.heap.size) slots) : ∀ U : State, U.heap = H → u.WarmedH U.vm → Po G av s av.toArray U := by
  intro U hU hW
  refine ⟨rfl, ?_, by rw [hU]; exact hR, hE.to hW (by rw [hU]; exact hS.1) (fun x h1 h2 => by rw [hU]; exact hS.2.1 x h1 h2)⟩
  rw [hU]
  exact hR.size hn hE.2.1 hS hT X
theorem R_call {z : Mt} {av rest stk : List Value} {v : Option Value} {s1 : Hp} (hc : Call G z av s (v, s1)) (kk : R G M (pc + 3) L (v.toList ++ rest) s1 o)
    (h : ∀ (p : Program) (e : Env) (u : State) (m : MethodId) (args : Array Value) (below : List Frame) (meth : Method) (c : Code) (H : Heap) (locs : List Loc) (ls : Array Slot) (mc0 ms0 cells slots : Nat) , Cx G M p u m args meth c → Rep G s H → va_S (Af G) u.heap H locs → lv_has ls M.2.2.1 L → cells + (s1.1 - s.1) ≤ mc0 ∧ slots + (s1.2.1 - s.2.1) ≤ ms0 →
      (∀ U : State, U.heap = H → u.WarmedH U.vm → Po G av s av.toArray U) → va_Run p G.1 e (rmM M mc0 ms0) u m args below meth c H locs cells slots (s1.1 - s.1) (s1.2.1 - s.2.1) (F0 m pc ls stk) rest (Qo G (v, s1) av.toArray) (Af G)) : R G M pc L stk s o := by
  have k1 := kk.1
  have c1 := hc.1
  dsimp only at c1
  refine ⟨⟨by omega, by omega⟩, fun p e u m args below meth c H locs ls k0 hC hn hk hR hS hl => ?_⟩
  intro T hT X
  have hPo := Po_at (av := av) hC.2.2.2.2.2.2.2.2 hn hR hS hT X
  have hrun := h p e u m args below meth c H locs ls (o.2.1 - u.heap.size) (o.2.2.1 - k0) (s.1 - u.heap.size) (s.2.1 - k0) hC hR hS hl ⟨by omega, by omega⟩ hPo
  refine run_go hrun hS (fun H1 locs1 hR1 hS1 => ?_) T hT X
  have z1 : s.1 - u.heap.size + (s1.1 - s.1) = s1.1 - u.heap.size := by omega
  have z2 : s.2.1 - k0 + (s1.2.1 - s.2.1) = s1.2.1 - k0 := by omega
  rw [z1, z2]
  exact kk.2 p e u m args below meth c H1 locs1 ls k0 hC (by omega) (by omega) hR1 hS1 hl
theorem R_callS {z : Mt} {As : List Value} {v : Option Value} {s1 : Hp} {i n : Nat} (hd : Dn M.2.1 pc (.invokestatic i) 3 q) (hb : KB M.2.2.2.2.1 M.2.2.2.2.2 z n) (hl : Cond.methodLink M.1.cls i z.1 ∈ TB) (hs : Cond.static z.1 ∈ TB) (hn : As.length = n) (hw : (st.map fun v => v.category).sum ≤ 8) (hc : Call G z As s (v, s1)) (kk : R G M q L (v.toList ++ st) s1 o) : R G M pc L (As.reverse ++ st) s o := by
  obtain ⟨hd, rfl⟩ := hd
  refine R_call hc kk fun p e u m args below meth c H locs ls mc0 ms0 cells slots hC hR hS hls hf hPo => ?_
  have hts := hC.2.2.2.2.2.1
  refine va_runS (Ts := TB) ⟨hC.1, hC.2.1, hC.2.2.2.1, hC.2.2.2.2.1, hts⟩ hc.2 ⟨callB_of n hts (KB_good hb) rfl rfl rfl (hts _ hb.2.1) (hts _ hl) ⟨hb.2.2.1, hb.2.2.2.1, hb.2.2.2.2.1⟩ hb.2.2.2.2.2, hts _ hs⟩ ⟨Po_blind, hPo⟩ rfl hn hls.1 rfl ?_ hd hf
  show 2 * 0 + _ ≤ 8
  omega
theorem R_callSN {z : Mt} {As : List Value} {v : Option Value} {s1 : Hp} {i n : Nat} {host : String} (hd : Dn M.2.1 pc (.invokestatic i) 3 q) (hb : KB M.2.2.2.2.1 M.2.2.2.2.2 z n) (hl : Cond.methodLinkNest M.1.cls i z.1 host ∈ NB) (hs : Cond.static z.1 ∈ TB) (hn : As.length = n) (hw : (st.map fun v => v.category).sum ≤ 8) (hc : Call G z As s (v, s1)) (kk : R G M q L (v.toList ++ st) s1 o) : R G M pc L (As.reverse ++ st) s o := by
  obtain ⟨hd, rfl⟩ := hd
  refine R_call hc kk fun p e u m args below meth c H locs ls mc0 ms0 cells slots hC hR hS hls hf hPo => ?_
  have hts := hC.2.2.2.2.2.1
  refine va_runSN (Ts := TB) ⟨hC.1, hC.2.1, hC.2.2.2.1, hC.2.2.2.2.1, hts⟩ hc.2 ⟨va_cnB n hts (KB_good hb) rfl rfl rfl (hC.2.2.2.2.2.2.2.2.2.2.2.1 _ hl) (hts _ hb.2.1) ⟨hb.2.2.1, hb.2.2.2.1, hb.2.2.2.2.1⟩ hb.2.2.2.2.2, hts _ hs, trivial⟩ ⟨Po_blind, hPo⟩ rfl hn hls.1 rfl ?_ hd hf
  show 2 * 0 + _ ≤ 8
  omega
theorem R_callI {z : Mt} {a : Nat} {As : List Value} {s1 : Hp} {i n : Nat} (hd : Dn M.2.1 pc (.invokespecial i) 3 q) (hb : KB M.2.2.2.2.1 M.2.2.2.2.2 z n) (hl : Cond.methodLink M.1.cls i z.1 ∈ TB) (hs : Cond.instanceMethod z.1 ∈ TB) (hi : z.1.name = "<init>") (hz : z.2.2.2.1 = none) (hn : As.length = n) (hw : (st.map fun v => v.category).sum ≤ 8) (hc : Call G z (.ref a :: As) s (none, s1)) (kk : R G M q L st s1 o) : R G M pc L (As.reverse ++ .ref a :: st) s o := by
  obtain ⟨hd, rfl⟩ := hd
  refine R_call (v := none) hc kk fun p e u m args below meth c H locs ls mc0 ms0 cells slots hC hR hS hls hf hPo => ?_
  have hts := hC.2.2.2.2.2.1
  refine va_runI (Ts := TB) ⟨hC.1, hC.2.1, hC.2.2.2.1, hC.2.2.2.2.1, hts⟩ hc.2 ⟨callB_of n hts (KB_good hb) (by show wsM z = Cond.code z.1 z.2.1 z.2.2.1 none :: TB; rw [← hz]; rfl) rfl rfl (hts _ hb.2.1) (hts _ hl) ⟨hb.2.2.1, hb.2.2.2.1, hb.2.2.2.2.1⟩ hb.2.2.2.2.2, hi, hts _ hs⟩ ⟨Po_blind, hPo⟩ rfl hn hls.1 rfl ?_ hd hf
  show 2 * 0 + _ ≤ 8
  omega
theorem R_callIN {z : Mt} {a : Nat} {As : List Value} {s1 : Hp} {i n : Nat} {host : String} (hd : Dn M.2.1 pc (.invokespecial i) 3 q) (hb : KB M.2.2.2.2.1 M.2.2.2.2.2 z n) (hl : Cond.methodLinkNest M.1.cls i z.1 host ∈ NB) (hs : Cond.instanceMethod z.1 ∈ TB) (hi : z.1.name = "<init>") (hz : z.2.2.2.1 = none) (hn : As.length = n) (hw : (st.map fun v => v.category).sum ≤ 8) (hc : Call G z (.ref a :: As) s (none, s1)) (kk : R G M q L st s1 o) : R G M pc L (As.reverse ++ .ref a :: st) s o := by
  obtain ⟨hd, rfl⟩ := hd
  refine R_call (v := none) hc kk fun p e u m args below meth c H locs ls mc0 ms0 cells slots hC hR hS hls hf hPo => ?_
  have hts := hC.2.2.2.2.2.1
  refine va_runIN (Ts := TB) ⟨hC.1, hC.2.1, hC.2.2.2.1, hC.2.2.2.2.1, hts⟩ hc.2 ⟨va_cnB n hts (KB_good hb) (by show wsM z = Cond.code z.1 z.2.1 z.2.2.1 none :: TB; rw [← hz]; rfl) rfl rfl (hC.2.2.2.2.2.2.2.2.2.2.2.1 _ hl) (hts _ hb.2.1) ⟨hb.2.2.1, hb.2.2.2.1, hb.2.2.2.2.1⟩ hb.2.2.2.2.2, hi, hts _ hs⟩ ⟨Po_blind, hPo⟩ rfl hn hls.1 rfl ?_ hd hf
  show 2 * 0 + _ ≤ 8
  omega
theorem R_callVR {z : Mt} {a : Nat} {As : List Value} {v : Option Value} {s1 : Hp} {i n : Nat} (hd : Dn M.2.1 pc (.invokevirtual i) 3 q) (hb : KB M.2.2.2.2.1 M.2.2.2.2.2 z n) (hl : Cond.methodLink M.1.cls i z.1 ∈ TB) (hs : Cond.instanceMethod z.1 ∈ TB) (hse : Cond.selects z.1.cls z.1 z.1 ∈ TB) (hn : As.length = n) (hw : (st.map fun v => v.category).sum ≤ 8) (hc : Call G z (.ref a :: As) s (v, s1))
    (hrec : ∀ (u : State) (H : Heap) (locs : List Loc), Ext G u → Rep G s H → va_S (Af G) u.heap H locs → ∃ cell : Cell, H[a]? = some cell ∧ cell.vm.isStatics = false ∧ u.vm.findClass z.1.cls = some cell.cls) (kk : R G M q L (v.toList ++ st) s1 o) : R G M pc L (As.reverse ++ .ref a :: st) s o := by
  obtain ⟨hd, rfl⟩ := hd
  refine R_call hc kk fun p e u m args below meth c H locs ls mc0 ms0 cells slots hC hR hS hls hf hPo => ?_
  have hts := hC.2.2.2.2.2.1
  refine va_runV (Ts := TB) (C := z.1.cls) ⟨hC.1, hC.2.1, hC.2.2.2.1, hC.2.2.2.2.1, hts⟩ hc.2 ⟨callB_of n hts (KB_good hb) rfl rfl rfl (hts _ hb.2.1) (hts _ hl) ⟨hb.2.2.1, hb.2.2.2.1, hb.2.2.2.2.1⟩ hb.2.2.2.2.2, hts _ hs, hts _ hse⟩ ⟨Po_blind, hrec u H locs hC.2.2.2.2.2.2.2.2 hR hS, hPo⟩ rfl hn hls.1 rfl ?_ hd hf
  show 2 * 0 + _ ≤ 8
  omega
theorem R_callV {z : Mt} {a ci : Nat} {As : List Value} {v : Option Value} {s1 : Hp} {i n : Nat} (hd : Dn M.2.1 pc (.invokevirtual i) 3 q) (hb : KB M.2.2.2.2.1 M.2.2.2.2.2 z n) (hl : Cond.methodLink M.1.cls i z.1 ∈ TB) (hs : Cond.instanceMethod z.1 ∈ TB) (hse : Cond.selects z.1.cls z.1 z.1 ∈ TB) (hcl : (∃ T, vwCl[ci]? = some (z.1.cls, T)) ∧ ci < 20) (hn : As.length = n) (hw : (st.map fun v => v.category).sum ≤ 8) (hc : (s.2.2 a).1 = ci ∧ Call G z (.ref a :: As) s (v, s1)) (kk : R G M q L (v.toList ++ st) s1 o) : R G M pc L (As.reverse ++ .ref a :: st) s o := by
  refine R_callVR hd hb hl hs hse hn hw hc.2 (fun u H locs hE hR hS => ?_) kk
  obtain ⟨⟨T, hT⟩, hci⟩ := hcl
  obtain ⟨k, hk⟩ := wsO_at (G := G) (s := s) (hR.1.2.1 a (by omega))
  rw [toE_obj (by omega), hc.1] at hk
  exact va_recv hE.1 hR.2 hT hk
theorem Call.of_R {av : List Value} (hy : plainName M.1.cls = true) (hlen : (lg_sl av).length ≤ M.2.2.1) (k : R G M 0 (lv_args 0 av) [] s o) : Call G M av s o := by
  refine ⟨k.1, Met.ofW (cc := M.2.1) (maxL := M.2.2.1) (ret := M.2.2.2.1) hy rfl ?_⟩
  intro p e u m args below meth c s₁ B hml hv
  obtain ⟨rfl, hsz, hR, hE⟩ := hv
  have hts := atoms_spec (ws := wsM M) B.pre
  have hC : Cx G M p u m av.toArray meth c := ⟨B.exec, B.bytes, B.returns, hml, findClass_of_methodNamed B.named, fun w hw => hts w (List.mem_cons_of_mem _ hw), B.notSynchronized, (name_of_methodNamed B.named B.method).1, hE⟩
  rw [lg_entry_eq]
  have h := k.2 p e u m av.toArray below meth c u.heap [] _ s.2.1 hC (by omega) (Nat.le_refl _) hR va_S.rf (lv_entry av hlen)
  rw [hsz, Nat.sub_self, Nat.sub_self] at h
  exact h
end RC
