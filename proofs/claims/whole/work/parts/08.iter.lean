/-! loops, names, and what the lifted methods are made of -/
def iter {σ ρ : Type} (F : σ → Option (σ ⊕ ρ)) : Nat → σ → Option ρ
  | 0, _ => none
  | n + 1, a => (F a).bind fun w => Sum.elim (iter F n) some w
def FU : Nat := 1000000
def lt_ {α β : Type} (a : α) (k : α → β) : β := k a
def ck (s : Hp) (a ci : Nat) : Option Unit := if (s.2.2 a).1 = ci then some () else none
def rZ (v : Int32) : Option Unit := if v = 0 ∨ v = 1 then some () else none
def dI (x y : Int32) : Option Int32 := if y = 0 then none else some (x / y)
def mI (x y : Int32) : Option Int32 := if y = 0 then none else some (x - x / y * y)
def dL (x y : Int64) : Option Int64 := if y = 0 then none else some (x / y)
def mL (x y : Int64) : Option Int64 := if y = 0 then none else some (x - x / y * y)
theorem ck_some {s : Hp} {a ci : Nat} {u : Unit} (h : ck s a ci = some u) : (s.2.2 a).1 = ci := by
  unfold ck at h
  split at h
  · assumption
  · cases h
theorem rZ_some {v : Int32} {u : Unit} (h : rZ v = some u) : v = 0 ∨ v = 1 := by
  unfold rZ at h
  split at h
  · assumption
  · cases h
theorem dI_some {x y z : Int32} (h : dI x y = some z) : ¬ y = 0 ∧ z = x / y := by
  unfold dI at h
  split at h
  · cases h
  · exact ⟨by assumption, (Option.some.inj h).symm⟩
theorem mI_some {x y z : Int32} (h : mI x y = some z) : ¬ y = 0 ∧ z = x - x / y * y := by
  unfold mI at h
  split at h
  · cases h
  · exact ⟨by assumption, (Option.some.inj h).symm⟩
theorem dL_some {x y z : Int64} (h : dL x y = some z) : ¬ y = 0 ∧ z = x / y := by
  unfold dL at h
  split at h
  · cases h
  · exact ⟨by assumption, (Option.some.inj h).symm⟩
theorem mL_some {x y z : Int64} (h : mL x y = some z) : ¬ y = 0 ∧ z = x - x / y * y := by
  unfold mL at h
  split at h
  · cases h
  · exact ⟨by assumption, (Option.some.inj h).symm⟩
theorem lt_some {α β : Type} {a : α} {k : α → Option β} {w : β} (h : lt_ a k = some w) : ∃ x, x = a ∧ k x = some w := ⟨a, rfl, h⟩
theorem if_t {α : Type} {c : Prop} [Decidable c] {A B w : α} (h : (if c then A else B) = w) (hc : c) : A = w := by rwa [if_pos hc] at h
theorem if_f {α : Type} {c : Prop} [Decidable c] {A B w : α} (h : (if c then A else B) = w) (hc : ¬ c) : B = w := by rwa [if_neg hc] at h
theorem el_l {α β γ : Type} {f : α → γ} {g : β → γ} {a : α} {w : γ} (h : Sum.elim f g (.inl a) = w) : f a = w := h
theorem el_r {α β γ : Type} {f : α → γ} {g : β → γ} {b : β} {w : γ} (h : Sum.elim f g (.inr b) = w) : g b = w := h
theorem loop_R {σ ρ : Type} (F : σ → Option (σ ⊕ ρ)) (P : σ → Prop) (Qx : ρ → Prop) (hb : ∀ a w, F a = some w → (∀ a', w = .inl a' → P a') → (∀ r, w = .inr r → Qx r) → P a) : ∀ (n : Nat) (a : σ) (r : ρ), iter F n a = some r → Qx r → P a := by
  intro n
  induction n with
  | zero => intro a r h; cases h
  | succ n ih =>
    intro a r h hq
    obtain ⟨w, hw, h2⟩ := bind_some (show (F a).bind (fun w => Sum.elim (iter F n) some w) = some r from h)
    refine hb a w hw (fun a' e => ?_) (fun r' e => ?_)
    · subst e
      exact ih a' r h2 hq
    · subst e
      have e2 : r' = r := Option.some.inj h2
      rw [e2]
      exact hq
section RX
variable {G : Gm} {M : Mt} {pc q : Nat} {L : List (Nat × Value)} {st : List Value} {s : Hp} {o : Option Value × Hp}
theorem R_istoreE {i : Nat} {x y : Int32} (ex : x = y) (L' : List (Nat × Value)) (hd : Dis M.2.1 pc i q) (hn : i < M.2.2.1) (hl : (i, Value.int x) :: L.filter (fun q => !(q.1 == i) && !(q.1 + 1 == i && q.2.category == 2)) = L') (kk : R G M q L' st s o) : R G M pc L (.int y :: st) s o := by
  subst ex
  exact R_istore L' hd hn hl kk
theorem R_lstoreE {i : Nat} {x y : Int64} (ex : x = y) (L' : List (Nat × Value)) (hd : Dls M.2.1 pc i q) (hn : i + 1 < M.2.2.1) (hl : (i, Value.long x) :: L.filter (fun q => !(q.1 == i) && (!(q.1 == i + 1) && !(q.1 + 1 == i && q.2.category == 2))) = L') (kk : R G M q L' st s o) : R G M pc L (.long y :: st) s o := by
  subst ex
  exact R_lstore L' hd hn hl kk
theorem R_dI {x y z : Int32} (hd : Dn M.2.1 pc .idiv 1 q) (hg : dI x y = some z) (kk : R G M q L (.int z :: st) s o) : R G M pc L (.int y :: .int x :: st) s o := by
  obtain ⟨h1, h2⟩ := dI_some hg
  subst h2
  exact R_idiv hd h1 kk
theorem R_mI {x y z : Int32} (hd : Dn M.2.1 pc .irem 1 q) (hg : mI x y = some z) (kk : R G M q L (.int z :: st) s o) : R G M pc L (.int y :: .int x :: st) s o := by
  obtain ⟨h1, h2⟩ := mI_some hg
  subst h2
  exact R_irem hd h1 kk
theorem R_dL {x y z : Int64} (hd : Dn M.2.1 pc .ldiv 1 q) (hg : dL x y = some z) (kk : R G M q L (.long z :: st) s o) : R G M pc L (.long y :: .long x :: st) s o := by
  obtain ⟨h1, h2⟩ := dL_some hg
  subst h2
  exact R_ldiv hd h1 kk
theorem R_mL {x y z : Int64} (hd : Dn M.2.1 pc .lrem 1 q) (hg : mL x y = some z) (kk : R G M q L (.long z :: st) s o) : R G M pc L (.long y :: .long x :: st) s o := by
  obtain ⟨h1, h2⟩ := mL_some hg
  subst h2
  exact R_lrem hd h1 kk
/-- the words of a callee, without the caller's room -/
def KZ (z : Mt) (n : Nat) : Prop := Cond.code z.1 z.2.1 z.2.2.1 z.2.2.2.1 ∈ TB ∧ Cond.initialized z.1.cls ∈ TB ∧ z.1.cls ≠ "java/lang/invoke/MethodHandle" ∧ z.1.cls ≠ "java/lang/invoke/VarHandle" ∧ (parseMethodDescriptor z.1.desc).map (fun d => d.parameters.length) = some n
def KZv (z : Mt) (n ci : Nat) : Prop := KZ z n ∧ Cond.instanceMethod z.1 ∈ TB ∧ Cond.selects z.1.cls z.1 z.1 ∈ TB ∧ (∃ T, vwCl[ci]? = some (z.1.cls, T)) ∧ ci < 20
def KZs (z : Mt) (n : Nat) : Prop := KZ z n ∧ Cond.static z.1 ∈ TB
def KZi (z : Mt) (n : Nat) : Prop := KZ z n ∧ Cond.instanceMethod z.1 ∈ TB ∧ z.1.name = "<init>" ∧ z.2.2.2.1 = none
theorem KZ.kb {z : Mt} {n fr lo : Nat} (h : KZ z n) (hr : z.2.2.2.2.1 + 1 ≤ fr ∧ 8 + (z.2.2.1 + 11) + z.2.2.2.2.2 ≤ lo) : KB fr lo z n := ⟨h.1, h.2.1, h.2.2.1, h.2.2.2.1, h.2.2.2.2, hr⟩
theorem R_cV1 {z : Mt} {a ci i n : Nat} {x : Value} {s1 : Hp} (As : List Value) (hd : Dn M.2.1 pc (.invokevirtual i) 3 q) (hz : KZv z n ci) (hl : Cond.methodLink M.1.cls i z.1 ∈ TB) (hr : z.2.2.2.2.1 + 1 ≤ M.2.2.2.2.1 ∧ 8 + (z.2.2.1 + 11) + z.2.2.2.2.2 ≤ M.2.2.2.2.2) (hn : As.length = n) (hw : (st.map fun v => v.category).sum ≤ 8) (hc : (s.2.2 a).1 = ci ∧ Call G z (.ref a :: As) s (some x, s1)) (kk : R G M q L (x :: st) s1 o) : R G M pc L (As.reverse ++ .ref a :: st) s o :=
  R_callV (v := some x) hd (hz.1.kb hr) hl hz.2.1 hz.2.2.1 hz.2.2.2 hn hw hc kk
theorem R_cV0 {z : Mt} {a ci i n : Nat} {s1 : Hp} (As : List Value) (hd : Dn M.2.1 pc (.invokevirtual i) 3 q) (hz : KZv z n ci) (hl : Cond.methodLink M.1.cls i z.1 ∈ TB) (hr : z.2.2.2.2.1 + 1 ≤ M.2.2.2.2.1 ∧ 8 + (z.2.2.1 + 11) + z.2.2.2.2.2 ≤ M.2.2.2.2.2) (hn : As.length = n) (hw : (st.map fun v => v.category).sum ≤ 8) (hc : (s.2.2 a).1 = ci ∧ Call G z (.ref a :: As) s (none, s1)) (kk : R G M q L st s1 o) : R G M pc L (As.reverse ++ .ref a :: st) s o :=
  R_callV (v := none) hd (hz.1.kb hr) hl hz.2.1 hz.2.2.1 hz.2.2.2 hn hw hc kk
theorem R_cS1 {z : Mt} {i n : Nat} {x : Value} {s1 : Hp} (As : List Value) (hd : Dn M.2.1 pc (.invokestatic i) 3 q) (hz : KZs z n) (hl : Cond.methodLink M.1.cls i z.1 ∈ TB) (hr : z.2.2.2.2.1 + 1 ≤ M.2.2.2.2.1 ∧ 8 + (z.2.2.1 + 11) + z.2.2.2.2.2 ≤ M.2.2.2.2.2) (hn : As.length = n) (hw : (st.map fun v => v.category).sum ≤ 8) (hc : Call G z As s (some x, s1)) (kk : R G M q L (x :: st) s1 o) : R G M pc L (As.reverse ++ st) s o :=
  R_callS (v := some x) hd (hz.1.kb hr) hl hz.2 hn hw hc kk
theorem R_cS0 {z : Mt} {i n : Nat} {s1 : Hp} (As : List Value) (hd : Dn M.2.1 pc (.invokestatic i) 3 q) (hz : KZs z n) (hl : Cond.methodLink M.1.cls i z.1 ∈ TB) (hr : z.2.2.2.2.1 + 1 ≤ M.2.2.2.2.1 ∧ 8 + (z.2.2.1 + 11) + z.2.2.2.2.2 ≤ M.2.2.2.2.2) (hn : As.length = n) (hw : (st.map fun v => v.category).sum ≤ 8) (hc : Call G z As s (none, s1)) (kk : R G M q L st s1 o) : R G M pc L (As.reverse ++ st) s o :=
  R_callS (v := none) hd (hz.1.kb hr) hl hz.2 hn hw hc kk
theorem R_cSN1 {z : Mt} {i n : Nat} {x : Value} {s1 : Hp} {host : String} (As : List Value) (hd : Dn M.2.1 pc (.invokestatic i) 3 q) (hz : KZs z n) (hl : Cond.methodLinkNest M.1.cls i z.1 host ∈ NB) (hr : z.2.2.2.2.1 + 1 ≤ M.2.2.2.2.1 ∧ 8 + (z.2.2.1 + 11) + z.2.2.2.2.2 ≤ M.2.2.2.2.2) (hn : As.length = n) (hw : (st.map fun v => v.category).sum ≤ 8) (hc : Call G z As s (some x, s1)) (kk : R G M q L (x :: st) s1 o) : R G M pc L (As.reverse ++ st) s o :=
  R_callSN (v := some x) hd (hz.1.kb hr) hl hz.2 hn hw hc kk
theorem R_cI {z : Mt} {a i n ci : Nat} {s1 : Hp} (As : List Value) (hd : Dn M.2.1 pc (.invokespecial i) 3 q) (hz : KZi z n) (hl : Cond.methodLink M.1.cls i z.1 ∈ TB) (hr : z.2.2.2.2.1 + 1 ≤ M.2.2.2.2.1 ∧ 8 + (z.2.2.1 + 11) + z.2.2.2.2.2 ≤ M.2.2.2.2.2) (hn : As.length = n) (hw : (st.map fun v => v.category).sum ≤ 8) (hc : (s.2.2 a).1 = ci ∧ Call G z (.ref a :: As) s (none, s1)) (kk : R G M q L st s1 o) : R G M pc L (As.reverse ++ .ref a :: st) s o :=
  R_callI hd (hz.1.kb hr) hl hz.2.1 hz.2.2.1 hz.2.2.2 hn hw hc.2 kk
theorem R_cIN {z : Mt} {a i n ci : Nat} {s1 : Hp} {host : String} (As : List Value) (hd : Dn M.2.1 pc (.invokespecial i) 3 q) (hz : KZi z n) (hl : Cond.methodLinkNest M.1.cls i z.1 host ∈ NB) (hr : z.2.2.2.2.1 + 1 ≤ M.2.2.2.2.1 ∧ 8 + (z.2.2.1 + 11) + z.2.2.2.2.2 ≤ M.2.2.2.2.2) (hn : As.length = n) (hw : (st.map fun v => v.category).sum ≤ 8) (hc : (s.2.2 a).1 = ci ∧ Call G z (.ref a :: As) s (none, s1)) (kk : R G M q L st s1 o) : R G M pc L (As.reverse ++ .ref a :: st) s o :=
  R_callIN hd (hz.1.kb hr) hl hz.2.1 hz.2.2.1 hz.2.2.2 hn hw hc.2 kk
end RX
theorem nfw : nativeFrameWords "java/lang/System" "arraycopy" 5 = 7 := by decide +kernel
theorem tab_out {x : Int32} {lo hi : Int} (h : ∀ k : Int, lo ≤ k → k ≤ hi → x.toInt = k → False) : x.toInt < lo ∨ hi < x.toInt := by
  by_cases h1 : x.toInt < lo
  · exact Or.inl h1
  · by_cases h2 : hi < x.toInt
    · exact Or.inr h2
    · exact (h x.toInt (by omega) (by omega) rfl).elim
section RY
variable {G : Gm} {M : Mt} {pc q : Nat} {L : List (Nat × Value)} {st : List Value} {s : Hp} {o : Option Value × Hp}
theorem R_cpyI {a0 a i : Nat} {sp dp n : Int32} {s' : Hp} (hd : Dn M.2.1 pc (.invokestatic i) 3 q) (hw : WC M.1.cls i) (hr : 1 ≤ M.2.2.2.2.1 ∧ (st.map fun v => v.category).sum + 18 ≤ M.2.2.2.2.2) (hg : cpV s 20 a0 sp a dp n = some s') (kk : R G M q L st s' o) : R G M pc L (.int n :: .int dp :: .ref a :: .int sp :: .ref a0 :: st) s o :=
  R_cpI hd hw ⟨hr.1, by rw [nfw]; exact hr.2⟩ hg kk
theorem R_cpyL {a0 a i : Nat} {sp dp n : Int32} {s' : Hp} (hd : Dn M.2.1 pc (.invokestatic i) 3 q) (hw : WC M.1.cls i) (hr : 1 ≤ M.2.2.2.2.1 ∧ (st.map fun v => v.category).sum + 18 ≤ M.2.2.2.2.2) (hg : cpV s 21 a0 sp a dp n = some s') (kk : R G M q L st s' o) : R G M pc L (.int n :: .int dp :: .ref a :: .int sp :: .ref a0 :: st) s o :=
  R_cpL hd hw ⟨hr.1, by rw [nfw]; exact hr.2⟩ hg kk
theorem rt24 : RT 24 4 6 := Or.inl ⟨rfl, rfl, rfl⟩
theorem rt25 : RT 25 5 5 := Or.inr (Or.inl ⟨rfl, rfl, rfl⟩)
theorem rt26 : RT 26 6 2 := Or.inr (Or.inr ⟨rfl, rfl, rfl⟩)
theorem at20 : AT 20 .int 0 (.int 0) := Or.inl ⟨rfl, rfl, rfl, rfl⟩
theorem at21 : AT 21 .long 1 (.long 0) := Or.inr (Or.inl ⟨rfl, rfl, rfl, rfl⟩)
theorem at22 : AT 22 .byte 2 (.int 0) := Or.inr (Or.inr (Or.inl ⟨rfl, rfl, rfl, rfl⟩))
theorem at23 : AT 23 .boolean 3 (.int 0) := Or.inr (Or.inr (Or.inr ⟨rfl, rfl, rfl, rfl⟩))
end RY
def imax (x y : Int32) : Int32 := if x < y then y else x
def imin (x y : Int32) : Int32 := if y < x then y else x
def MW (nm : MethodName) (cd : ByteArray) (own : String) (i : Nat) : Prop := Cond.methodLink own i nm ∈ TB ∧ Cond.static nm ∈ TB ∧ Cond.initialized "java/lang/Math" ∈ TB ∧ Cond.code nm cd 2 (some .int) ∈ TB
theorem R_mmax {G : Gm} {M : Mt} {pc q : Nat} {L : List (Nat × Value)} {st : List Value} {s : Hp} {o : Option Value × Hp} {i : Nat} {x y : Int32} (hd : Dn M.2.1 pc (.invokestatic i) 3 q) (hw : MW Lib.Math.max.name Lib.Math.max.code M.1.cls i) (hr : 1 ≤ M.2.2.2.2.1 ∧ (st.map fun v => v.category).sum + 13 ≤ M.2.2.2.2.2) (kk : R G M q L (.int (imax x y) :: st) s o) : R G M pc L (.int y :: .int x :: st) s o := by
  obtain ⟨hd, rfl⟩ := hd
  have k1 := kk.1
  refine ⟨kk.1, fun p e u m args below meth c H locs ls k0 hC hn hk hR hS hl => ?_⟩
  refine va_mmax hC.1 hC.2.1 (hC.2.2.2.1.trans hl.1.symm) hC.2.2.2.2.1 (hC.2.2.2.2.2.1 _ hw.1) (hC.2.2.2.2.2.1 _ hw.2.1) (hC.2.2.2.2.2.1 _ hw.2.2.1) (hC.2.2.2.2.2.1 _ hw.2.2.2) hr.1 hr.2 ?_ ?_ hd (kk.2 p e u m args below meth c H locs ls k0 hC hn hk hR hS hl)
  · show s.1 - u.heap.size ≤ o.2.1 - u.heap.size
    omega
  · show s.2.1 - k0 ≤ o.2.2.1 - k0
    omega
theorem R_mmin {G : Gm} {M : Mt} {pc q : Nat} {L : List (Nat × Value)} {st : List Value} {s : Hp} {o : Option Value × Hp} {i : Nat} {x y : Int32} (hd : Dn M.2.1 pc (.invokestatic i) 3 q) (hw : MW Lib.Math.min.name Lib.Math.min.code M.1.cls i) (hr : 1 ≤ M.2.2.2.2.1 ∧ (st.map fun v => v.category).sum + 13 ≤ M.2.2.2.2.2) (kk : R G M q L (.int (imin x y) :: st) s o) : R G M pc L (.int y :: .int x :: st) s o := by
  obtain ⟨hd, rfl⟩ := hd
  have k1 := kk.1
  refine ⟨kk.1, fun p e u m args below meth c H locs ls k0 hC hn hk hR hS hl => ?_⟩
  refine va_mmin hC.1 hC.2.1 (hC.2.2.2.1.trans hl.1.symm) hC.2.2.2.2.1 (hC.2.2.2.2.2.1 _ hw.1) (hC.2.2.2.2.2.1 _ hw.2.1) (hC.2.2.2.2.2.1 _ hw.2.2.1) (hC.2.2.2.2.2.1 _ hw.2.2.2) hr.1 hr.2 ?_ ?_ hd (kk.2 p e u m args below meth c H locs ls k0 hC hn hk hR hS hl)
  · show s.1 - u.heap.size ≤ o.2.1 - u.heap.size
    omega
  · show s.2.1 - k0 ≤ o.2.2.1 - k0
    omega
def KZt (z : Mt) (n : Nat) : Prop := KZ z n ∧ Cond.instanceMethod z.1 ∈ TB ∧ Cond.selects z.1.cls z.1 z.1 ∈ TB ∧ z.1.cls = "java/lang/String"
theorem R_cT {G : Gm} {M : Mt} {pc q : Nat} {L : List (Nat × Value)} {st : List Value} {s : Hp} {o : Option Value × Hp} {z : Mt} {a i n : Nat} {x : Value} {s1 : Hp} (As : List Value) (hd : Dn M.2.1 pc (.invokevirtual i) 3 q) (hz : KZt z n) (hl : Cond.methodLink M.1.cls i z.1 ∈ TB) (hr : z.2.2.2.2.1 + 1 ≤ M.2.2.2.2.1 ∧ 8 + (z.2.2.1 + 11) + z.2.2.2.2.2 ≤ M.2.2.2.2.2) (hn : As.length = n) (hw : (st.map fun v => v.category).sum ≤ 8) (hc : (s.2.2 a).1 = 40 ∧ Call G z (.ref a :: As) s (some x, s1)) (kk : R G M q L (x :: st) s1 o) : R G M pc L (As.reverse ++ .ref a :: st) s o := by
  refine R_callVR (v := some x) hd (hz.1.kb hr) hl hz.2.1 hz.2.2.1 hn hw hc.2 (fun u H locs hE hR hS => ?_) kk
  obtain ⟨h1, h2⟩ := hR.1.2.2 a hc.1
  rw [hz.2.2.2, h2]
  exact vk_recv hE.2.2.2.2.2.1 h1 hS
