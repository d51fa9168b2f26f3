/-! rules of R, an instruction each (written by gen/rules.py) -/
def Dn (cc : ByteArray) (pc : Nat) (i : Instr) (len q : Nat) : Prop := decode cc pc = .ok (i, len) ∧ pc + len = q
def Db (cc : ByteArray) (pc : Nat) (i : Instr) (off : Int) (q t : Nat) : Prop := decode cc pc = .ok (i, 3) ∧ pc + 3 = q ∧ (pc : Int) + off = (t : Int)
def DI (cc : ByteArray) (pc : Nat) (v : Int32) (q : Nat) : Prop := (∃ n, decode cc pc = .ok (.iconst n, 1) ∧ Int32.ofInt n = v ∧ pc + 1 = q) ∨ (∃ n, decode cc pc = .ok (.bipush n, 2) ∧ (Int8.ofInt n).toInt32 = v ∧ pc + 2 = q) ∨ (∃ n, decode cc pc = .ok (.sipush n, 3) ∧ (Int16.ofInt n).toInt32 = v ∧ pc + 3 = q)
def DJ (cc : ByteArray) (pc : Nat) (v : Int64) (q : Nat) : Prop := ∃ n : Fin 2, decode cc pc = .ok (.lconst n, 1) ∧ Int64.ofNat (n : Nat) = v ∧ pc + 1 = q
def Dil (cc : ByteArray) (pc i q : Nat) : Prop := (decode cc pc = .ok (.iload i, 2) ∧ pc + 2 = q) ∨ (∃ k : Fin 4, decode cc pc = .ok (.iload_n k, 1) ∧ (k : Nat) = i ∧ pc + 1 = q)
def Dis (cc : ByteArray) (pc i q : Nat) : Prop := (decode cc pc = .ok (.istore i, 2) ∧ pc + 2 = q) ∨ (∃ k : Fin 4, decode cc pc = .ok (.istore_n k, 1) ∧ (k : Nat) = i ∧ pc + 1 = q)
def Dll (cc : ByteArray) (pc i q : Nat) : Prop := (decode cc pc = .ok (.lload i, 2) ∧ pc + 2 = q) ∨ (∃ k : Fin 4, decode cc pc = .ok (.lload_n k, 1) ∧ (k : Nat) = i ∧ pc + 1 = q)
def Dls (cc : ByteArray) (pc i q : Nat) : Prop := (decode cc pc = .ok (.lstore i, 2) ∧ pc + 2 = q) ∨ (∃ k : Fin 4, decode cc pc = .ok (.lstore_n k, 1) ∧ (k : Nat) = i ∧ pc + 1 = q)
def Dal (cc : ByteArray) (pc i q : Nat) : Prop := (decode cc pc = .ok (.aload i, 2) ∧ pc + 2 = q) ∨ (∃ k : Fin 4, decode cc pc = .ok (.aload_n k, 1) ∧ (k : Nat) = i ∧ pc + 1 = q)
def Das (cc : ByteArray) (pc i q : Nat) : Prop := (decode cc pc = .ok (.astore i, 2) ∧ pc + 2 = q) ∨ (∃ k : Fin 4, decode cc pc = .ok (.astore_n k, 1) ∧ (k : Nat) = i ∧ pc + 1 = q)
def iush (x y : Int32) : Int32 := (x.toUInt32 >>> (y.toUInt32 &&& Int32.toUInt32 31)).toInt32
def ish (x y : Int32) : Int32 := x <<< (y &&& 31)
def isr (x y : Int32) : Int32 := x >>> (y &&& 31)
def lsh (x : Int64) (y : Int32) : Int64 := x <<< (y.toInt64 &&& 63)
def lsr (x : Int64) (y : Int32) : Int64 := x >>> (y.toInt64 &&& 63)
def lush (x : Int64) (y : Int32) : Int64 := (x.toUInt64 >>> (y.toInt64.toUInt64 &&& Int64.toUInt64 63)).toInt64
def i2b (x : Int32) : Int32 := x.toInt8.toInt32
def i2s (x : Int32) : Int32 := x.toInt16.toInt32
section RR
variable {G : Gm} {M : Mt} {pc q : Nat} {L : List (Nat × Value)} {st : List Value} {s : Hp} {o : Option Value × Hp}
theorem R.stp {pc' : Nat} {st' : List Value} (k : R G M pc' L st' s o)
    (h : ∀ (p : Program) (e : Env) (Rm : Room) (u : State) (m : MethodId) (args : Array Value) (below : List Frame) (meth : Method) (c : Code) (H : Heap) (locs : List Loc) (cells slots : Nat) (Q : State → Prop) (ls : Array Slot),
      Cx G M p u m args meth c → Rep G s H → va_S (Af G) u.heap H locs → lv_has ls M.2.2.1 L → W p G.1 e Rm u m args below meth c H locs cells slots Q (F0 m pc' ls st') → W p G.1 e Rm u m args below meth c H locs cells slots Q (F0 m pc ls st)) : R G M pc L st s o :=
  ⟨k.1, fun p e u m args below meth c H locs ls k0 hC hn hk hR hS hl => h _ _ _ _ _ _ _ _ _ _ _ _ _ _ _ hC hR hS hl (k.2 p e u m args below meth c H locs ls k0 hC hn hk hR hS hl)⟩
theorem R.stpL {pc' : Nat} {L' : List (Nat × Value)} {st' : List Value} (k : R G M pc' L' st' s o)
    (h : ∀ (p : Program) (e : Env) (Rm : Room) (u : State) (m : MethodId) (args : Array Value) (below : List Frame) (meth : Method) (c : Code) (H : Heap) (locs : List Loc) (cells slots : Nat) (Q : State → Prop) (ls : Array Slot),
      Cx G M p u m args meth c → lv_has ls M.2.2.1 L → (∀ ls', lv_has ls' M.2.2.1 L' → W p G.1 e Rm u m args below meth c H locs cells slots Q (F0 m pc' ls' st')) → W p G.1 e Rm u m args below meth c H locs cells slots Q (F0 m pc ls st)) : R G M pc L st s o :=
  ⟨k.1, fun p e u m args below meth c H locs ls k0 hC hn hk hR hS hl => h _ _ _ _ _ _ _ _ _ _ _ _ _ _ _ hC hl (fun ls' hl' => k.2 p e u m args below meth c H locs ls' k0 hC hn hk hR hS hl')⟩
theorem R.sub {L' : List (Nat × Value)} (ks : List Nat) (hl : lv_pick L ks = L') (k : R G M pc L' st s o) : R G M pc L st s o :=
  ⟨k.1, fun p e u m args below meth c H locs ls k0 hC hn hk hR hS h => k.2 p e u m args below meth c H locs ls k0 hC hn hk hR hS (lv_sub h ks hl)⟩
theorem R_iload {i : Nat} {x : Int32} (hd : Dil M.2.1 pc i q) (k : Nat) (hk : L[k]? = some (i, .int x)) (kk : R G M q L (.int x :: st) s o) : R G M pc L st s o := by
  rcases hd with ⟨hd, rfl⟩ | ⟨k4, hd, hi, rfl⟩
  · exact kk.stp fun p e Rm u m args below meth c H locs cells slots Q ls hC hR hS hl w => lv_iload hC.1 hC.2.1 hd (lv_at hl k hk) w
  · exact kk.stp fun p e Rm u m args below meth c H locs cells slots Q ls hC hR hS hl w => lv_iload_n hC.1 hC.2.1 hd hi (lv_at hl k hk) w
theorem R_istore {i : Nat} {x : Int32} (L' : List (Nat × Value)) (hd : Dis M.2.1 pc i q) (hn : i < M.2.2.1) (hl : (i, Value.int x) :: L.filter (fun q => !(q.1 == i) && !(q.1 + 1 == i && q.2.category == 2)) = L') (kk : R G M q L' st s o) : R G M pc L (.int x :: st) s o := by
  rcases hd with ⟨hd, rfl⟩ | ⟨k4, hd, hi, rfl⟩
  · exact kk.stpL fun p e Rm u m args below meth c H locs cells slots Q ls hC h w => lv_istore hC.1 hC.2.1 hd h hn hl w
  · exact kk.stpL fun p e Rm u m args below meth c H locs cells slots Q ls hC h w => lv_istore_n hC.1 hC.2.1 hd hi h hn hl w
theorem R_lload {i : Nat} {x : Int64} (hd : Dll M.2.1 pc i q) (k : Nat) (hk : L[k]? = some (i, .long x)) (kk : R G M q L (.long x :: st) s o) : R G M pc L st s o := by
  rcases hd with ⟨hd, rfl⟩ | ⟨k4, hd, hi, rfl⟩
  · exact kk.stp fun p e Rm u m args below meth c H locs cells slots Q ls hC hR hS hl w => lv_lload hC.1 hC.2.1 hd (lv_at hl k hk) w
  · exact kk.stp fun p e Rm u m args below meth c H locs cells slots Q ls hC hR hS hl w => lv_lload_n hC.1 hC.2.1 hd hi (lv_at hl k hk) w
theorem R_lstore {i : Nat} {x : Int64} (L' : List (Nat × Value)) (hd : Dls M.2.1 pc i q) (hn : i + 1 < M.2.2.1) (hl : (i, Value.long x) :: L.filter (fun q => !(q.1 == i) && (!(q.1 == i + 1) && !(q.1 + 1 == i && q.2.category == 2))) = L') (kk : R G M q L' st s o) : R G M pc L (.long x :: st) s o := by
  rcases hd with ⟨hd, rfl⟩ | ⟨k4, hd, hi, rfl⟩
  · exact kk.stpL fun p e Rm u m args below meth c H locs cells slots Q ls hC h w => lv_lstore hC.1 hC.2.1 hd h hn hl w
  · exact kk.stpL fun p e Rm u m args below meth c H locs cells slots Q ls hC h w => lv_lstore_n hC.1 hC.2.1 hd hi h hn hl w
theorem R_aload {i : Nat} {x : Nat} (hd : Dal M.2.1 pc i q) (k : Nat) (hk : L[k]? = some (i, .ref x)) (kk : R G M q L (.ref x :: st) s o) : R G M pc L st s o := by
  rcases hd with ⟨hd, rfl⟩ | ⟨k4, hd, hi, rfl⟩
  · exact kk.stp fun p e Rm u m args below meth c H locs cells slots Q ls hC hR hS hl w => lv_aload hC.1 hC.2.1 hd (lv_at hl k hk) w
  · exact kk.stp fun p e Rm u m args below meth c H locs cells slots Q ls hC hR hS hl w => lv_aload_n hC.1 hC.2.1 hd hi (lv_at hl k hk) w
theorem R_astore {i : Nat} {x : Nat} (L' : List (Nat × Value)) (hd : Das M.2.1 pc i q) (hn : i < M.2.2.1) (hl : (i, Value.ref x) :: L.filter (fun q => !(q.1 == i) && !(q.1 + 1 == i && q.2.category == 2)) = L') (kk : R G M q L' st s o) : R G M pc L (.ref x :: st) s o := by
  rcases hd with ⟨hd, rfl⟩ | ⟨k4, hd, hi, rfl⟩
  · exact kk.stpL fun p e Rm u m args below meth c H locs cells slots Q ls hC h w => lv_astore hC.1 hC.2.1 hd h hn hl w
  · exact kk.stpL fun p e Rm u m args below meth c H locs cells slots Q ls hC h w => lv_astore_n hC.1 hC.2.1 hd hi h hn hl w
theorem R_iinc {i : Nat} {n : Int} {x v : Int32} (L' : List (Nat × Value)) (hd : Dn M.2.1 pc (.iinc i n) 3 q) (k : Nat) (hk : L[k]? = some (i, .int x)) (hv : x + Int32.ofInt n = v) (hn : i < M.2.2.1) (hl : (i, Value.int v) :: L.filter (fun q => !(q.1 == i) && !(q.1 + 1 == i && q.2.category == 2)) = L') (kk : R G M q L' st s o) : R G M pc L st s o := by
  obtain ⟨hd, rfl⟩ := hd
  exact kk.stpL fun p e Rm u m args below meth c H locs cells slots Q ls hC h w => lv_iinc hC.1 hC.2.1 hd h hk hv hn hl w
theorem R_const {v : Int32} (hd : DI M.2.1 pc v q) (kk : R G M q L (.int v :: st) s o) : R G M pc L st s o := by
  rcases hd with ⟨n, hd, hv, rfl⟩ | ⟨n, hd, hv, rfl⟩ | ⟨n, hd, hv, rfl⟩
  · exact kk.stp fun p e Rm u m args below meth c H locs cells slots Q ls hC hR hS hl w => lv_iconst hC.1 hC.2.1 hd hv w
  · exact kk.stp fun p e Rm u m args below meth c H locs cells slots Q ls hC hR hS hl w => lv_bipush hC.1 hC.2.1 hd hv w
  · exact kk.stp fun p e Rm u m args below meth c H locs cells slots Q ls hC hR hS hl w => lv_sipush hC.1 hC.2.1 hd hv w
theorem R_lconst {v : Int64} (hd : DJ M.2.1 pc v q) (kk : R G M q L (.long v :: st) s o) : R G M pc L st s o := by
  obtain ⟨n, hd, hv, rfl⟩ := hd
  exact kk.stp fun p e Rm u m args below meth c H locs cells slots Q ls hC hR hS hl w => lv_lconst hC.1 hC.2.1 hd hv w
theorem R_ldc {v : Int32} {i : Nat} (hd : Dn M.2.1 pc (.ldc i) 2 q) (hw : Cond.constant M.1.cls i v ∈ TB) (kk : R G M q L (.int v :: st) s o) : R G M pc L st s o := by
  obtain ⟨hd, rfl⟩ := hd
  exact kk.stp fun p e Rm u m args below meth c H locs cells slots Q ls hC hR hS hl w => lv_ldc hC.1 hC.2.1 hC.2.2.2.2.1 (hC.2.2.2.2.2.1 _ hw) hd w
theorem R_ldcw {v : Int32} {i : Nat} (hd : Dn M.2.1 pc (.ldc_w i) 3 q) (hw : Cond.constant M.1.cls i v ∈ TB) (kk : R G M q L (.int v :: st) s o) : R G M pc L st s o := by
  obtain ⟨hd, rfl⟩ := hd
  exact kk.stp fun p e Rm u m args below meth c H locs cells slots Q ls hC hR hS hl w => lv_ldcw hC.1 hC.2.1 hC.2.2.2.2.1 (hC.2.2.2.2.2.1 _ hw) hd w
theorem R_ldc2 {v : Int64} {i : Nat} (hd : Dn M.2.1 pc (.ldc2_w i) 3 q) (hw : Cond.constantLong M.1.cls i v ∈ TB) (kk : R G M q L (.long v :: st) s o) : R G M pc L st s o := by
  obtain ⟨hd, rfl⟩ := hd
  exact kk.stp fun p e Rm u m args below meth c H locs cells slots Q ls hC hR hS hl w => lv_ldc2 hC.1 hC.2.1 hC.2.2.2.2.1 (hC.2.2.2.2.2.1 _ hw) hd w
theorem R_ldcS {i : Nat} (k : Nat) (hk : k < 28) (hcls : M.1.cls = RX3) (hi : sIdx.getD k 0 = i) (hd : Dn M.2.1 pc (.ldc i) 2 q) (kk : R G M q L (.ref (gK G k) :: st) s o) : R G M pc L st s o := by
  obtain ⟨hd, rfl⟩ := hd
  subst hi
  exact kk.stp fun p e Rm u m args below meth c H locs cells slots Q ls hC hR hS hl w => va_ldcS hC.1 hC.2.1 (by have := hC.2.2.2.2.1; rw [hcls] at this; exact this) (hC.2.2.2.2.2.2.2.2.2.2.2.2.2.2.1 k hk) hd w
theorem R_goto {off : Int} {t : Nat} (hd : Db M.2.1 pc (.goto off) off q t) (kk : R G M t L st s o) : R G M pc L st s o := by
  obtain ⟨hd, -, ht⟩ := hd
  exact kk.stp fun p e Rm u m args below meth c H locs cells slots Q ls hC hR hS hl w => lv_goto hC.1 hC.2.1 hd ht w
theorem R_dup {v : Value} (hd : Dn M.2.1 pc .dup 1 q) (hv : v.category = 1) (kk : R G M q L (v :: v :: st) s o) : R G M pc L (v :: st) s o := by
  obtain ⟨hd, rfl⟩ := hd
  exact kk.stp fun p e Rm u m args below meth c H locs cells slots Q ls hC hR hS hl w => lv_dup hC.1 hC.2.1 hd hv w
theorem R_pop {v : Value} (hd : Dn M.2.1 pc .pop 1 q) (hv : v.category = 1) (kk : R G M q L st s o) : R G M pc L (v :: st) s o := by
  obtain ⟨hd, rfl⟩ := hd
  exact kk.stp fun p e Rm u m args below meth c H locs cells slots Q ls hC hR hS hl w => lv_pop hC.1 hC.2.1 hd hv w
theorem R_dup2 {v v2 : Value} (hd : Dn M.2.1 pc .dup2 1 q) (hv : v.category = 1) (hv2 : v2.category = 1) (kk : R G M q L (v :: v2 :: v :: v2 :: st) s o) : R G M pc L (v :: v2 :: st) s o := by
  obtain ⟨hd, rfl⟩ := hd
  exact kk.stp fun p e Rm u m args below meth c H locs cells slots Q ls hC hR hS hl w => lv_dup2_11 hC.1 hC.2.1 hd hv hv2 w
theorem R_lcmp {x y : Int64} (hd : Dn M.2.1 pc .lcmp 1 q) (kk : R G M q L (.int (lg_cmp x y) :: st) s o) : R G M pc L (.long y :: .long x :: st) s o := by
  obtain ⟨hd, rfl⟩ := hd
  exact kk.stp fun p e Rm u m args below meth c H locs cells slots Q ls hC hR hS hl w => W.lcmp hC.1 hC.2.1 hd w
theorem R_iadd {x y : Int32} (hd : Dn M.2.1 pc .iadd 1 q) (kk : R G M q L (.int (x + y) :: st) s o) : R G M pc L (.int y :: .int x :: st) s o := by
  obtain ⟨hd, rfl⟩ := hd
  exact kk.stp fun p e Rm u m args below meth c H locs cells slots Q ls hC hR hS hl w => lv_iadd hC.1 hC.2.1 hd w
theorem R_isub {x y : Int32} (hd : Dn M.2.1 pc .isub 1 q) (kk : R G M q L (.int (x - y) :: st) s o) : R G M pc L (.int y :: .int x :: st) s o := by
  obtain ⟨hd, rfl⟩ := hd
  exact kk.stp fun p e Rm u m args below meth c H locs cells slots Q ls hC hR hS hl w => lv_isub hC.1 hC.2.1 hd w
theorem R_imul {x y : Int32} (hd : Dn M.2.1 pc .imul 1 q) (kk : R G M q L (.int (x * y) :: st) s o) : R G M pc L (.int y :: .int x :: st) s o := by
  obtain ⟨hd, rfl⟩ := hd
  exact kk.stp fun p e Rm u m args below meth c H locs cells slots Q ls hC hR hS hl w => lv_imul hC.1 hC.2.1 hd w
theorem R_iand {x y : Int32} (hd : Dn M.2.1 pc .iand 1 q) (kk : R G M q L (.int (x &&& y) :: st) s o) : R G M pc L (.int y :: .int x :: st) s o := by
  obtain ⟨hd, rfl⟩ := hd
  exact kk.stp fun p e Rm u m args below meth c H locs cells slots Q ls hC hR hS hl w => lv_iand hC.1 hC.2.1 hd w
theorem R_ior {x y : Int32} (hd : Dn M.2.1 pc .ior 1 q) (kk : R G M q L (.int (x ||| y) :: st) s o) : R G M pc L (.int y :: .int x :: st) s o := by
  obtain ⟨hd, rfl⟩ := hd
  exact kk.stp fun p e Rm u m args below meth c H locs cells slots Q ls hC hR hS hl w => lv_ior hC.1 hC.2.1 hd w
theorem R_ixor {x y : Int32} (hd : Dn M.2.1 pc .ixor 1 q) (kk : R G M q L (.int (x ^^^ y) :: st) s o) : R G M pc L (.int y :: .int x :: st) s o := by
  obtain ⟨hd, rfl⟩ := hd
  exact kk.stp fun p e Rm u m args below meth c H locs cells slots Q ls hC hR hS hl w => lv_ixor hC.1 hC.2.1 hd w
theorem R_ishl {x y : Int32} (hd : Dn M.2.1 pc .ishl 1 q) (kk : R G M q L (.int (ish x y) :: st) s o) : R G M pc L (.int y :: .int x :: st) s o := by
  obtain ⟨hd, rfl⟩ := hd
  exact kk.stp fun p e Rm u m args below meth c H locs cells slots Q ls hC hR hS hl w => lv_ishl hC.1 hC.2.1 hd w
theorem R_ishr {x y : Int32} (hd : Dn M.2.1 pc .ishr 1 q) (kk : R G M q L (.int (isr x y) :: st) s o) : R G M pc L (.int y :: .int x :: st) s o := by
  obtain ⟨hd, rfl⟩ := hd
  exact kk.stp fun p e Rm u m args below meth c H locs cells slots Q ls hC hR hS hl w => lv_ishr hC.1 hC.2.1 hd w
theorem R_idiv {x y : Int32} (hd : Dn M.2.1 pc .idiv 1 q) (hne : ¬ y = 0) (kk : R G M q L (.int (x / y) :: st) s o) : R G M pc L (.int y :: .int x :: st) s o := by
  obtain ⟨hd, rfl⟩ := hd
  exact kk.stp fun p e Rm u m args below meth c H locs cells slots Q ls hC hR hS hl w => lv_idiv hC.1 hC.2.1 hd hne w
theorem R_irem {x y : Int32} (hd : Dn M.2.1 pc .irem 1 q) (hne : ¬ y = 0) (kk : R G M q L (.int (x - x / y * y) :: st) s o) : R G M pc L (.int y :: .int x :: st) s o := by
  obtain ⟨hd, rfl⟩ := hd
  exact kk.stp fun p e Rm u m args below meth c H locs cells slots Q ls hC hR hS hl w => lv_irem hC.1 hC.2.1 hd hne w
theorem R_iushr {x y : Int32} (hd : Dn M.2.1 pc .iushr 1 q) (kk : R G M q L (.int (iush x y) :: st) s o) : R G M pc L (.int y :: .int x :: st) s o := by
  obtain ⟨hd, rfl⟩ := hd
  exact kk.stp fun p e Rm u m args below meth c H locs cells slots Q ls hC hR hS hl w => lv_iushr hC.1 hC.2.1 hd rfl w
theorem R_ladd {x y : Int64} (hd : Dn M.2.1 pc .ladd 1 q) (kk : R G M q L (.long (x + y) :: st) s o) : R G M pc L (.long y :: .long x :: st) s o := by
  obtain ⟨hd, rfl⟩ := hd
  exact kk.stp fun p e Rm u m args below meth c H locs cells slots Q ls hC hR hS hl w => lv_ladd hC.1 hC.2.1 hd w
theorem R_lsub {x y : Int64} (hd : Dn M.2.1 pc .lsub 1 q) (kk : R G M q L (.long (x - y) :: st) s o) : R G M pc L (.long y :: .long x :: st) s o := by
  obtain ⟨hd, rfl⟩ := hd
  exact kk.stp fun p e Rm u m args below meth c H locs cells slots Q ls hC hR hS hl w => lv_lsub hC.1 hC.2.1 hd w
theorem R_lmul {x y : Int64} (hd : Dn M.2.1 pc .lmul 1 q) (kk : R G M q L (.long (x * y) :: st) s o) : R G M pc L (.long y :: .long x :: st) s o := by
  obtain ⟨hd, rfl⟩ := hd
  exact kk.stp fun p e Rm u m args below meth c H locs cells slots Q ls hC hR hS hl w => lv_lmul hC.1 hC.2.1 hd w
theorem R_land {x y : Int64} (hd : Dn M.2.1 pc .land 1 q) (kk : R G M q L (.long (x &&& y) :: st) s o) : R G M pc L (.long y :: .long x :: st) s o := by
  obtain ⟨hd, rfl⟩ := hd
  exact kk.stp fun p e Rm u m args below meth c H locs cells slots Q ls hC hR hS hl w => lv_land hC.1 hC.2.1 hd w
theorem R_lor {x y : Int64} (hd : Dn M.2.1 pc .lor 1 q) (kk : R G M q L (.long (x ||| y) :: st) s o) : R G M pc L (.long y :: .long x :: st) s o := by
  obtain ⟨hd, rfl⟩ := hd
  exact kk.stp fun p e Rm u m args below meth c H locs cells slots Q ls hC hR hS hl w => lv_lor hC.1 hC.2.1 hd w
theorem R_lxor {x y : Int64} (hd : Dn M.2.1 pc .lxor 1 q) (kk : R G M q L (.long (x ^^^ y) :: st) s o) : R G M pc L (.long y :: .long x :: st) s o := by
  obtain ⟨hd, rfl⟩ := hd
  exact kk.stp fun p e Rm u m args below meth c H locs cells slots Q ls hC hR hS hl w => lv_lxor hC.1 hC.2.1 hd w
theorem R_ldiv {x y : Int64} (hd : Dn M.2.1 pc .ldiv 1 q) (hne : ¬ y = 0) (kk : R G M q L (.long (x / y) :: st) s o) : R G M pc L (.long y :: .long x :: st) s o := by
  obtain ⟨hd, rfl⟩ := hd
  exact kk.stp fun p e Rm u m args below meth c H locs cells slots Q ls hC hR hS hl w => lv_ldiv hC.1 hC.2.1 hd hne w
theorem R_lrem {x y : Int64} (hd : Dn M.2.1 pc .lrem 1 q) (hne : ¬ y = 0) (kk : R G M q L (.long (x - x / y * y) :: st) s o) : R G M pc L (.long y :: .long x :: st) s o := by
  obtain ⟨hd, rfl⟩ := hd
  exact kk.stp fun p e Rm u m args below meth c H locs cells slots Q ls hC hR hS hl w => lv_lrem hC.1 hC.2.1 hd hne w
theorem R_lshl {x : Int64} {y : Int32} (hd : Dn M.2.1 pc .lshl 1 q) (kk : R G M q L (.long (lsh x y) :: st) s o) : R G M pc L (.int y :: .long x :: st) s o := by
  obtain ⟨hd, rfl⟩ := hd
  exact kk.stp fun p e Rm u m args below meth c H locs cells slots Q ls hC hR hS hl w => lv_lshl hC.1 hC.2.1 hd rfl w
theorem R_lshr {x : Int64} {y : Int32} (hd : Dn M.2.1 pc .lshr 1 q) (kk : R G M q L (.long (lsr x y) :: st) s o) : R G M pc L (.int y :: .long x :: st) s o := by
  obtain ⟨hd, rfl⟩ := hd
  exact kk.stp fun p e Rm u m args below meth c H locs cells slots Q ls hC hR hS hl w => lv_lshr hC.1 hC.2.1 hd rfl w
theorem R_lushr {x : Int64} {y : Int32} (hd : Dn M.2.1 pc .lushr 1 q) (kk : R G M q L (.long (lush x y) :: st) s o) : R G M pc L (.int y :: .long x :: st) s o := by
  obtain ⟨hd, rfl⟩ := hd
  exact kk.stp fun p e Rm u m args below meth c H locs cells slots Q ls hC hR hS hl w => lv_lushr hC.1 hC.2.1 hd rfl w
theorem R_i2l {x : Int32} (hd : Dn M.2.1 pc .i2l 1 q) (kk : R G M q L (.long (x.toInt64) :: st) s o) : R G M pc L (.int x :: st) s o := by
  obtain ⟨hd, rfl⟩ := hd
  exact kk.stp fun p e Rm u m args below meth c H locs cells slots Q ls hC hR hS hl w => lv_i2l hC.1 hC.2.1 hd rfl w
theorem R_l2i {x : Int64} (hd : Dn M.2.1 pc .l2i 1 q) (kk : R G M q L (.int (x.toInt32) :: st) s o) : R G M pc L (.long x :: st) s o := by
  obtain ⟨hd, rfl⟩ := hd
  exact kk.stp fun p e Rm u m args below meth c H locs cells slots Q ls hC hR hS hl w => lv_l2i hC.1 hC.2.1 hd rfl w
theorem R_i2b {x : Int32} (hd : Dn M.2.1 pc .i2b 1 q) (kk : R G M q L (.int (i2b x) :: st) s o) : R G M pc L (.int x :: st) s o := by
  obtain ⟨hd, rfl⟩ := hd
  exact kk.stp fun p e Rm u m args below meth c H locs cells slots Q ls hC hR hS hl w => lv_i2b hC.1 hC.2.1 hd rfl w
theorem R_i2s {x : Int32} (hd : Dn M.2.1 pc .i2s 1 q) (kk : R G M q L (.int (i2s x) :: st) s o) : R G M pc L (.int x :: st) s o := by
  obtain ⟨hd, rfl⟩ := hd
  exact kk.stp fun p e Rm u m args below meth c H locs cells slots Q ls hC hR hS hl w => lv_i2s hC.1 hC.2.1 hd rfl w
theorem R_if_eq_t {x : Int32} {off : Int} {t : Nat} (hd : Db M.2.1 pc (.ifCond .eq off) off q t) (h : x = 0) (kk : R G M t L st s o) : R G M pc L (.int x :: st) s o := by
  obtain ⟨hd, -, ht⟩ := hd
  exact kk.stp fun p e Rm u m args below meth c H locs cells slots Q ls hC hR hS hl w => lv_if_eq hC.1 hC.2.1 hd ht (fun _ => w) (fun n => absurd h n)
theorem R_if_eq_f {x : Int32} {off : Int} {t : Nat} (hd : Db M.2.1 pc (.ifCond .eq off) off q t) (h : ¬ (x = 0)) (kk : R G M q L st s o) : R G M pc L (.int x :: st) s o := by
  obtain ⟨hd, rfl, ht⟩ := hd
  exact kk.stp fun p e Rm u m args below meth c H locs cells slots Q ls hC hR hS hl w => lv_if_eq hC.1 hC.2.1 hd ht (fun n => absurd n h) (fun _ => w)
theorem R_icmp_eq_t {x y : Int32} {off : Int} {t : Nat} (hd : Db M.2.1 pc (.if_icmp .eq off) off q t) (h : x = y) (kk : R G M t L st s o) : R G M pc L (.int y :: .int x :: st) s o := by
  obtain ⟨hd, -, ht⟩ := hd
  exact kk.stp fun p e Rm u m args below meth c H locs cells slots Q ls hC hR hS hl w => lv_icmp_eq hC.1 hC.2.1 hd ht (fun _ => w) (fun n => absurd h n)
theorem R_icmp_eq_f {x y : Int32} {off : Int} {t : Nat} (hd : Db M.2.1 pc (.if_icmp .eq off) off q t) (h : ¬ (x = y)) (kk : R G M q L st s o) : R G M pc L (.int y :: .int x :: st) s o := by
  obtain ⟨hd, rfl, ht⟩ := hd
  exact kk.stp fun p e Rm u m args below meth c H locs cells slots Q ls hC hR hS hl w => lv_icmp_eq hC.1 hC.2.1 hd ht (fun n => absurd n h) (fun _ => w)
theorem R_if_ne_t {x : Int32} {off : Int} {t : Nat} (hd : Db M.2.1 pc (.ifCond .ne off) off q t) (h : ¬ x = 0) (kk : R G M t L st s o) : R G M pc L (.int x :: st) s o := by
  obtain ⟨hd, -, ht⟩ := hd
  exact kk.stp fun p e Rm u m args below meth c H locs cells slots Q ls hC hR hS hl w => lv_if_ne hC.1 hC.2.1 hd ht (fun _ => w) (fun n => absurd n h)
theorem R_if_ne_f {x : Int32} {off : Int} {t : Nat} (hd : Db M.2.1 pc (.ifCond .ne off) off q t) (h : x = 0) (kk : R G M q L st s o) : R G M pc L (.int x :: st) s o := by
  obtain ⟨hd, rfl, ht⟩ := hd
  exact kk.stp fun p e Rm u m args below meth c H locs cells slots Q ls hC hR hS hl w => lv_if_ne hC.1 hC.2.1 hd ht (fun n => absurd h n) (fun _ => w)
theorem R_icmp_ne_t {x y : Int32} {off : Int} {t : Nat} (hd : Db M.2.1 pc (.if_icmp .ne off) off q t) (h : ¬ x = y) (kk : R G M t L st s o) : R G M pc L (.int y :: .int x :: st) s o := by
  obtain ⟨hd, -, ht⟩ := hd
  exact kk.stp fun p e Rm u m args below meth c H locs cells slots Q ls hC hR hS hl w => lv_icmp_ne hC.1 hC.2.1 hd ht (fun _ => w) (fun n => absurd n h)
theorem R_icmp_ne_f {x y : Int32} {off : Int} {t : Nat} (hd : Db M.2.1 pc (.if_icmp .ne off) off q t) (h : x = y) (kk : R G M q L st s o) : R G M pc L (.int y :: .int x :: st) s o := by
  obtain ⟨hd, rfl, ht⟩ := hd
  exact kk.stp fun p e Rm u m args below meth c H locs cells slots Q ls hC hR hS hl w => lv_icmp_ne hC.1 hC.2.1 hd ht (fun n => absurd h n) (fun _ => w)
theorem R_if_lt_t {x : Int32} {off : Int} {t : Nat} (hd : Db M.2.1 pc (.ifCond .lt off) off q t) (h : x < 0) (kk : R G M t L st s o) : R G M pc L (.int x :: st) s o := by
  obtain ⟨hd, -, ht⟩ := hd
  exact kk.stp fun p e Rm u m args below meth c H locs cells slots Q ls hC hR hS hl w => lv_if_lt hC.1 hC.2.1 hd ht (fun _ => w) (fun n => absurd h n)
theorem R_if_lt_f {x : Int32} {off : Int} {t : Nat} (hd : Db M.2.1 pc (.ifCond .lt off) off q t) (h : ¬ (x < 0)) (kk : R G M q L st s o) : R G M pc L (.int x :: st) s o := by
  obtain ⟨hd, rfl, ht⟩ := hd
  exact kk.stp fun p e Rm u m args below meth c H locs cells slots Q ls hC hR hS hl w => lv_if_lt hC.1 hC.2.1 hd ht (fun n => absurd n h) (fun _ => w)
theorem R_icmp_lt_t {x y : Int32} {off : Int} {t : Nat} (hd : Db M.2.1 pc (.if_icmp .lt off) off q t) (h : x < y) (kk : R G M t L st s o) : R G M pc L (.int y :: .int x :: st) s o := by
  obtain ⟨hd, -, ht⟩ := hd
  exact kk.stp fun p e Rm u m args below meth c H locs cells slots Q ls hC hR hS hl w => lv_icmp_lt hC.1 hC.2.1 hd ht (fun _ => w) (fun n => absurd h n)
theorem R_icmp_lt_f {x y : Int32} {off : Int} {t : Nat} (hd : Db M.2.1 pc (.if_icmp .lt off) off q t) (h : ¬ (x < y)) (kk : R G M q L st s o) : R G M pc L (.int y :: .int x :: st) s o := by
  obtain ⟨hd, rfl, ht⟩ := hd
  exact kk.stp fun p e Rm u m args below meth c H locs cells slots Q ls hC hR hS hl w => lv_icmp_lt hC.1 hC.2.1 hd ht (fun n => absurd n h) (fun _ => w)
theorem R_if_ge_t {x : Int32} {off : Int} {t : Nat} (hd : Db M.2.1 pc (.ifCond .ge off) off q t) (h : 0 ≤ x) (kk : R G M t L st s o) : R G M pc L (.int x :: st) s o := by
  obtain ⟨hd, -, ht⟩ := hd
  exact kk.stp fun p e Rm u m args below meth c H locs cells slots Q ls hC hR hS hl w => lv_if_ge hC.1 hC.2.1 hd ht (fun _ => w) (fun n => absurd h n)
theorem R_if_ge_f {x : Int32} {off : Int} {t : Nat} (hd : Db M.2.1 pc (.ifCond .ge off) off q t) (h : ¬ (0 ≤ x)) (kk : R G M q L st s o) : R G M pc L (.int x :: st) s o := by
  obtain ⟨hd, rfl, ht⟩ := hd
  exact kk.stp fun p e Rm u m args below meth c H locs cells slots Q ls hC hR hS hl w => lv_if_ge hC.1 hC.2.1 hd ht (fun n => absurd n h) (fun _ => w)
theorem R_icmp_ge_t {x y : Int32} {off : Int} {t : Nat} (hd : Db M.2.1 pc (.if_icmp .ge off) off q t) (h : y ≤ x) (kk : R G M t L st s o) : R G M pc L (.int y :: .int x :: st) s o := by
  obtain ⟨hd, -, ht⟩ := hd
  exact kk.stp fun p e Rm u m args below meth c H locs cells slots Q ls hC hR hS hl w => lv_icmp_ge hC.1 hC.2.1 hd ht (fun _ => w) (fun n => absurd h n)
theorem R_icmp_ge_f {x y : Int32} {off : Int} {t : Nat} (hd : Db M.2.1 pc (.if_icmp .ge off) off q t) (h : ¬ (y ≤ x)) (kk : R G M q L st s o) : R G M pc L (.int y :: .int x :: st) s o := by
  obtain ⟨hd, rfl, ht⟩ := hd
  exact kk.stp fun p e Rm u m args below meth c H locs cells slots Q ls hC hR hS hl w => lv_icmp_ge hC.1 hC.2.1 hd ht (fun n => absurd n h) (fun _ => w)
theorem R_if_gt_t {x : Int32} {off : Int} {t : Nat} (hd : Db M.2.1 pc (.ifCond .gt off) off q t) (h : 0 < x) (kk : R G M t L st s o) : R G M pc L (.int x :: st) s o := by
  obtain ⟨hd, -, ht⟩ := hd
  exact kk.stp fun p e Rm u m args below meth c H locs cells slots Q ls hC hR hS hl w => lv_if_gt hC.1 hC.2.1 hd ht (fun _ => w) (fun n => absurd h n)
theorem R_if_gt_f {x : Int32} {off : Int} {t : Nat} (hd : Db M.2.1 pc (.ifCond .gt off) off q t) (h : ¬ (0 < x)) (kk : R G M q L st s o) : R G M pc L (.int x :: st) s o := by
  obtain ⟨hd, rfl, ht⟩ := hd
  exact kk.stp fun p e Rm u m args below meth c H locs cells slots Q ls hC hR hS hl w => lv_if_gt hC.1 hC.2.1 hd ht (fun n => absurd n h) (fun _ => w)
theorem R_icmp_gt_t {x y : Int32} {off : Int} {t : Nat} (hd : Db M.2.1 pc (.if_icmp .gt off) off q t) (h : y < x) (kk : R G M t L st s o) : R G M pc L (.int y :: .int x :: st) s o := by
  obtain ⟨hd, -, ht⟩ := hd
  exact kk.stp fun p e Rm u m args below meth c H locs cells slots Q ls hC hR hS hl w => lv_icmp_gt hC.1 hC.2.1 hd ht (fun _ => w) (fun n => absurd h n)
theorem R_icmp_gt_f {x y : Int32} {off : Int} {t : Nat} (hd : Db M.2.1 pc (.if_icmp .gt off) off q t) (h : ¬ (y < x)) (kk : R G M q L st s o) : R G M pc L (.int y :: .int x :: st) s o := by
  obtain ⟨hd, rfl, ht⟩ := hd
  exact kk.stp fun p e Rm u m args below meth c H locs cells slots Q ls hC hR hS hl w => lv_icmp_gt hC.1 hC.2.1 hd ht (fun n => absurd n h) (fun _ => w)
theorem R_if_le_t {x : Int32} {off : Int} {t : Nat} (hd : Db M.2.1 pc (.ifCond .le off) off q t) (h : x ≤ 0) (kk : R G M t L st s o) : R G M pc L (.int x :: st) s o := by
  obtain ⟨hd, -, ht⟩ := hd
  exact kk.stp fun p e Rm u m args below meth c H locs cells slots Q ls hC hR hS hl w => lv_if_le hC.1 hC.2.1 hd ht (fun _ => w) (fun n => absurd h n)
theorem R_if_le_f {x : Int32} {off : Int} {t : Nat} (hd : Db M.2.1 pc (.ifCond .le off) off q t) (h : ¬ (x ≤ 0)) (kk : R G M q L st s o) : R G M pc L (.int x :: st) s o := by
  obtain ⟨hd, rfl, ht⟩ := hd
  exact kk.stp fun p e Rm u m args below meth c H locs cells slots Q ls hC hR hS hl w => lv_if_le hC.1 hC.2.1 hd ht (fun n => absurd n h) (fun _ => w)
theorem R_icmp_le_t {x y : Int32} {off : Int} {t : Nat} (hd : Db M.2.1 pc (.if_icmp .le off) off q t) (h : x ≤ y) (kk : R G M t L st s o) : R G M pc L (.int y :: .int x :: st) s o := by
  obtain ⟨hd, -, ht⟩ := hd
  exact kk.stp fun p e Rm u m args below meth c H locs cells slots Q ls hC hR hS hl w => lv_icmp_le hC.1 hC.2.1 hd ht (fun _ => w) (fun n => absurd h n)
theorem R_icmp_le_f {x y : Int32} {off : Int} {t : Nat} (hd : Db M.2.1 pc (.if_icmp .le off) off q t) (h : ¬ (x ≤ y)) (kk : R G M q L st s o) : R G M pc L (.int y :: .int x :: st) s o := by
  obtain ⟨hd, rfl, ht⟩ := hd
  exact kk.stp fun p e Rm u m args below meth c H locs cells slots Q ls hC hR hS hl w => lv_icmp_le hC.1 hC.2.1 hd ht (fun n => absurd n h) (fun _ => w)
theorem R_ifnn_t {a : Nat} {off : Int} {t : Nat} (hd : Db M.2.1 pc (.ifnonnull off) off q t) (kk : R G M t L st s o) : R G M pc L (.ref a :: st) s o := by
  obtain ⟨hd, -, ht⟩ := hd
  exact kk.stp fun p e Rm u m args below meth c H locs cells slots Q ls hC hR hS hl w => lv_ifnonnull hC.1 hC.2.1 hd ht w
theorem R_ifnn_f {off : Int} {t : Nat} (hd : Db M.2.1 pc (.ifnonnull off) off q t) (kk : R G M q L st s o) : R G M pc L (.null :: st) s o := by
  obtain ⟨hd, rfl, ht⟩ := hd
  exact kk.stp fun p e Rm u m args below meth c H locs cells slots Q ls hC hR hS hl w => lv_ifnonnullN hC.1 hC.2.1 hd w
theorem R_tabIn {dflt lo hi : Int} {offs : Array Int} {len : Nat} {x : Int32} {off : Int} {t : Nat} (hd : decode M.2.1 pc = .ok (.tableswitch dflt lo hi offs, len)) (h1 : ¬ x.toInt < lo) (h2 : ¬ hi < x.toInt) (ho : offs[(x.toInt - lo).toNat]? = some off) (ht : (pc : Int) + off = (t : Int)) (kk : R G M t L st s o) : R G M pc L (.int x :: st) s o :=
  kk.stp fun p e Rm u m args below meth c H locs cells slots Q ls hC hR hS hl w => lv_tableIn hC.1 hC.2.1 hd h1 h2 ho ht w
theorem R_tabOut {dflt lo hi : Int} {offs : Array Int} {len : Nat} {x : Int32} {t : Nat} (hd : decode M.2.1 pc = .ok (.tableswitch dflt lo hi offs, len)) (h : x.toInt < lo ∨ hi < x.toInt) (ht : (pc : Int) + dflt = (t : Int)) (kk : R G M t L st s o) : R G M pc L (.int x :: st) s o :=
  kk.stp fun p e Rm u m args below meth c H locs cells slots Q ls hC hR hS hl w => lv_tableOut hC.1 hC.2.1 hd h ht w
theorem R_ret {s : Hp} {v : Option Value} {st : List Value} (h : ∀ (p : Program) (e : Env) (Rm : Room) (u : State) (m : MethodId) (args : Array Value) (below : List Frame) (meth : Method) (c : Code) (H : Heap) (locs : List Loc) (cells slots : Nat) (ls : Array Slot),
      Cx G M p u m args meth c → (∀ t : State, t.heap = H → u.WarmedH t.vm → Qo G (v, s) args u (.returned v) t) → (∀ q ∈ locs, Af G q.base) → W p G.1 e Rm u m args below meth c H locs cells slots (MQ below (Qo G (v, s)) args u cells slots (Af G)) (F0 m pc ls st)) : R G M pc L st s (v, s) :=
  ⟨⟨Nat.le_refl _, Nat.le_refl _⟩, fun p e u m args below meth c H locs ls k0 hC hn hk hR hS hl => h p e _ u m args below meth c H locs _ _ ls hC (fun t ht _ => ⟨rfl, by rw [ht]; exact hR, hS.F ht⟩) hS.2.2⟩
theorem R_ireturn {s : Hp} {v : Int32} (hr : M.2.2.2.1 = some .int) (hd : Dn M.2.1 pc .ireturn 1 q) : R G M pc L [.int v] s (some (.int v), s) :=
  R_ret fun p e Rm u m args below meth c H locs cells slots ls hC hq hf => W.iret hC.1 hC.2.1 (hC.2.2.1.trans hr) hq hf hd.1 hC.2.2.2.2.2.2.1
theorem R_zreturn {s : Hp} {v : Int32} (hr : M.2.2.2.1 = some .boolean) (hd : Dn M.2.1 pc .ireturn 1 q) (hv : v = 0 ∨ v = 1) : R G M pc L [.int v] s (some (.int v), s) :=
  R_ret fun p e Rm u m args below meth c H locs cells slots ls hC hq hf => W.zret hC.1 hC.2.1 (hC.2.2.1.trans hr) (by rcases hv with rfl | rfl <;> rfl) hq hf hd.1 hC.2.2.2.2.2.2.1
theorem R_lreturn {s : Hp} {v : Int64} (hr : M.2.2.2.1 = some .long) (hd : Dn M.2.1 pc .lreturn 1 q) : R G M pc L [.long v] s (some (.long v), s) :=
  R_ret fun p e Rm u m args below meth c H locs cells slots ls hC hq hf => W.lret hC.1 hC.2.1 (hC.2.2.1.trans hr) hq hf hd.1 hC.2.2.2.2.2.2.1
theorem R_areturn {s : Hp} {a : Nat} {C : String} (hr : M.2.2.2.1 = some (.object C)) (hd : Dn M.2.1 pc .areturn 1 q) : R G M pc L [.ref a] s (some (.ref a), s) :=
  R_ret fun p e Rm u m args below meth c H locs cells slots ls hC hq hf => W.aret hC.1 hC.2.1 (hC.2.2.1.trans hr) (Or.inl ⟨C, rfl⟩) (Or.inr ⟨a, rfl⟩) hq hf hd.1 hC.2.2.2.2.2.2.1
theorem R_return {s : Hp} (hr : M.2.2.2.1 = none) (hd : Dn M.2.1 pc .return_ 1 q) : R G M pc L [] s (none, s) :=
  R_ret fun p e Rm u m args below meth c H locs cells slots ls hC hq hf => W.vret hC.1 hC.2.1 (hC.2.2.1.trans hr) hq hf hd.1 hC.2.2.2.2.2.2.1
end RR
