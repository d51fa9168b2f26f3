/-! The plain heap: a cell is a tag, a length, and what it holds by places. Tags: 0 .. 9 the classes of vwCl, 20 int[], 21 long[], 22 byte[], 23 boolean[], 24 Valley[], 25 Row[], 26 Reach[], 40 a text constant, others nothing. -/
abbrev PC : Type := Nat × Nat × (Nat → Value)
abbrev Hp : Type := Nat × Nat × (Nat → PC)
def toI (v : Value) : Int32 := match v with | .int x => x | _ => 0
def toL (v : Value) : Int64 := match v with | .long x => x | _ => 0
def toR (v : Value) : Option Nat := match v with | .ref a => some a | _ => none
def toE (tA : Nat → ClassId) (c : PC) : va_E :=
  if c.1 < 20 then .inr (c.1, (List.range c.2.1).map c.2.2)
  else if c.1 = 21 then .inl (tA c.1, c.2.1, .inr (.inl (fun j => toL (c.2.2 j))))
  else if c.1 < 24 then .inl (tA c.1, c.2.1, .inl (fun j => toI (c.2.2 j)))
  else .inl (tA c.1, c.2.1, .inr (.inr (.inr (.inr (fun j => toR (c.2.2 j))))))
/-- what is fixed over a run: launch, classes and slots, array classes, the first address of ours, text constants and their bytes, the script -/
abbrev Gm : Type := Launch × va_G × (Nat → ClassId) × Nat × (Nat → Nat) × (Nat → Nat) × Nat × Nat × (Nat → Int32)
def gB (G : Gm) : Nat := G.2.2.2.1
def gK (G : Gm) : Nat → Nat := G.2.2.2.2.1
def gV (G : Gm) : Nat → Nat := G.2.2.2.2.2.1
def gS (G : Gm) : Nat := G.2.2.2.2.2.2.1
def gN (G : Gm) : Nat := G.2.2.2.2.2.2.2.1
def gX (G : Gm) : Nat → Int32 := G.2.2.2.2.2.2.2.2
def Af (G : Gm) : Nat → Prop := fun q => gB G ≤ q
def AL (b n : Nat) : List Nat := List.range' b (n - b)
theorem AL_mem {b n a : Nat} : a ∈ AL b n ↔ b ≤ a ∧ a < n := by
  unfold AL
  rw [List.mem_range'_1]
  omega
theorem AL_push {b n : Nat} (h : b ≤ n) : AL b (n + 1) = AL b n ++ [n] := by
  unfold AL
  rw [show n + 1 - b = (n - b) + 1 by omega, List.range'_concat]
  congr 2
  omega
def wsO (G : Gm) (s : Hp) : va_W := va_pl (AL (gB G) s.1) (fun a => toE G.2.2.1 (s.2.2 a))
def tyO (tA : Nat → ClassId) : List (ClassId × FieldType) := [(tA 20, .int), (tA 21, .long), (tA 22, .byte), (tA 23, .boolean), (tA 24, .object RX6), (tA 25, .object RX5), (tA 26, .object RX2)]
def OKs (G : Gm) (s : Hp) : Prop := gB G ≤ s.1 ∧ (∀ a, (s.2.2 a).1 < 40 → gB G ≤ a ∧ a < s.1) ∧ (∀ a, (s.2.2 a).1 = 40 → (s.2.2 a).2.1 < 28 ∧ a = gK G (s.2.2 a).2.1)
def Rep (G : Gm) (s : Hp) (H : Heap) : Prop := OKs G s ∧ va_P G.2.1 vwCl (wsO G s) H
/-! text constants -/
def sLen : List Nat := [6, 4, 4, 6, 5, 5, 5, 6, 5, 4, 4, 5, 5, 4, 5, 4, 4, 2, 4, 3, 5, 4, 5, 4, 2, 4, 5, 5]
def sByt : List (List Int32) := [[118, 97, 108, 108, 101, 121], [119, 105, 100, 101], [100, 101, 101, 112], [108, 97, 121, 101, 114, 115], [104, 111, 117, 114, 115], [99, 111, 111, 108, 115], [115, 101, 108, 108, 115], [119, 105, 116, 104, 105, 110], [112, 114, 105, 99, 101], [119, 105, 110, 100], [102, 114, 111, 109], [115, 116, 105, 108, 108], [110, 111, 114, 116, 104], [101, 97, 115, 116], [115, 111, 117, 116, 104], [119, 101, 115, 116], [115, 104, 111, 112], [97, 116], [115, 97, 110, 100], [103, 97, 115], [103, 111, 111, 100, 115], [100, 111, 111, 114], [119, 97, 110, 116, 115], [102, 97, 105, 114], [116, 111], [112, 108, 97, 110], [114, 105, 115, 101, 115], [115, 105, 110, 107, 115]]
def sIdx : List Nat := [108, 114, 121, 125, 129, 133, 67, 140, 145, 76, 147, 160, 162, 164, 166, 168, 81, 173, 175, 177, 179, 86, 194, 91, 199, 96, 210, 212]
def sTxt : List String := ["valley", "wide", "deep", "layers", "hours", "cools", "sells", "within", "price", "wind", "from", "still", "north", "east", "south", "west", "shop", "at", "sand", "gas", "goods", "door", "wants", "fair", "to", "plan", "rises", "sinks"]
def TB : List Cond := lw_tbl.filter goodWord
theorem TB_good : GoodIn TB TB := fun w hw => ⟨hw, good_of_word (List.mem_filter.mp hw).2⟩
theorem TB_in {w : Cond} (h : w ∈ lw_tbl) (hg : goodWord w = true) : w ∈ TB := List.mem_filter.mpr ⟨h, hg⟩
def isNest (w : Cond) : Bool := match w with | .methodLinkNest .. => true | .fieldLinkNest .. => true | _ => false
def NB : List Cond := tables_1.filter isNest
theorem NB_in {w : Cond} (i : Nat) (h : tables_1[i]? = some w) (hg : isNest w = true) : w ∈ NB := List.mem_filter.mpr ⟨List.mem_of_getElem? h, hg⟩
theorem NB_warm {s U : State} (hW : s.WarmedH U.vm) {w : Cond} (hw : w ∈ NB) (h : va_Nw w s) : va_Nw w U := by
  have h2 := (List.mem_filter.mp hw).2
  cases w <;> first | exact va_Nw.warmM hW h | exact va_Nw.warmF hW h | (exfalso; simp [isNest] at h2; done)
def Ext (G : Gm) (u : State) : Prop :=
  va_K G.2.1 vwCl (tyO G.2.2.1) u ∧ gB G ≤ u.heap.size ∧ (va_X (gS G) (gN G) (gX G) u u.heap ∧ gS G < gB G) ∧ (∀ w ∈ NB, va_Nw w u) ∧ (va_AO RX6 u ∧ va_AO RX5 u ∧ va_AO RX2 u) ∧
  vk_S 28 sLen sByt (gK G) (gV G) (Af G) u u.heap ∧ (∀ k, k < 28 → vk_R RX3 (sIdx.getD k 0) (sTxt.getD k "") (gK G k) u) ∧
  va_Z RJ0 "COMPACT_STRINGS" "Z" (.int 1) (Af G) u u.heap ∧ va_Zq RJ3 "SIOOBE_FORMATTER" "Ljava/util/function/BiFunction;" (Af G) u u.heap
theorem Ext.to {G : Gm} {s U : State} (h : Ext G s) (hW : s.WarmedH U.vm) (hn : s.heap.size ≤ U.heap.size) (hk : ∀ q : Nat, q < s.heap.size → ¬ Af G q → U.heap[q]? = s.heap[q]?) : Ext G U := by
  obtain ⟨h1, h2, ⟨h3, h4⟩, h5, ⟨h6, h7, h8⟩, h9, h10, h11, h12⟩ := h
  have hA := hW.alike
  have hlt : gS G < s.heap.size := Nat.lt_of_lt_of_le h4 h2
  exact ⟨va_K.moved hA h1, Nat.le_trans h2 hn, ⟨(va_X.moved hA h3).kept (hk _ hlt (Nat.not_le.mpr h4)), h4⟩, fun w hw => NB_warm hW hw (h5 w hw), ⟨va_AO.moved hA h6, va_AO.moved hA h7, va_AO.moved hA h8⟩,
    (vk_S.moved hA h9).kept hk, fun k hlt => vk_R.warm hW (h10 k hlt), (va_Z.moved hA h11).kept hk, (va_Zq.moved hA h12).kept hk⟩
theorem Ext.calling {G : Gm} {U : State} {g : JFrame} {mk : MethodId} {a : Array Value} (h : Ext G U) : Ext G (U.calling g mk a) :=
  h.to (U := U.calling g mk a) (State.WarmedH.refl U) (Nat.le_refl _) (fun _ _ _ => rfl)
def wsM (M : Mt) : List Cond := Cond.code M.1 M.2.1 M.2.2.1 M.2.2.2.1 :: TB
def rmM (M : Mt) (mc ms : Nat) : Room := { frames := M.2.2.2.2.1, cells := mc, slots := ms, locals := M.2.2.2.2.2 }
def Qo (G : Gm) (o : Option Value × Hp) : Array Value → State → Outcome → State → Prop := fun _ st oc t => oc = .returned o.1 ∧ Rep G o.2 t.heap ∧ va_F (Af G) st t
def Po (G : Gm) (av : List Value) (s : Hp) : Array Value → State → Prop := fun v U => v = av.toArray ∧ U.heap.size = s.1 ∧ Rep G s U.heap ∧ Ext G U
/-- calling M with these values at this heap comes back with o -/
def Call (G : Gm) (M : Mt) (av : List Value) (s : Hp) (o : Option Value × Hp) : Prop :=
  (s.1 ≤ o.2.1 ∧ s.2.1 ≤ o.2.2.1) ∧ Met G.1 M.1 (wsM M) (rmM M (o.2.1 - s.1) (o.2.2.1 - s.2.1)) (Po G av s) (Qo G o) (o.2.1 - s.1) (o.2.2.1 - s.2.1) (Af G)
def Cx (G : Gm) (M : Mt) (p : Program) (u : State) (m : MethodId) (args : Array Value) (meth : Method) (c : Code) : Prop :=
  p.tables.exec = Jvm.exec ∧ c.code = M.2.1 ∧ meth.sig.returnType = M.2.2.2.1 ∧ c.maxLocals = M.2.2.1 ∧ u.vm.findClass M.1.cls = some m.cls ∧ (∀ w ∈ TB, w.before args u = true) ∧ meth.locks = false ∧ meth.name = M.1.name ∧ Ext G u
/-- from here on method M comes back with o -/
def R (G : Gm) (M : Mt) (pc : Nat) (L : List (Nat × Value)) (st : List Value) (s : Hp) (o : Option Value × Hp) : Prop :=
  (s.1 ≤ o.2.1 ∧ s.2.1 ≤ o.2.2.1) ∧
  ∀ (p : Program) (e : Env) (u : State) (m : MethodId) (args : Array Value) (below : List Frame) (meth : Method) (c : Code) (H : Heap) (locs : List Loc) (ls : Array Slot) (k0 : Nat),
    Cx G M p u m args meth c → u.heap.size ≤ s.1 → k0 ≤ s.2.1 → Rep G s H → va_S (Af G) u.heap H locs → lv_has ls M.2.2.1 L →
    W p G.1 e (rmM M (o.2.1 - u.heap.size) (o.2.2.1 - k0)) u m args below meth c H locs (s.1 - u.heap.size) (s.2.1 - k0) (MQ below (Qo G o) args u (o.2.1 - u.heap.size) (o.2.2.1 - k0) (Af G)) (F0 m pc ls st)
theorem wsO_at {G : Gm} {s : Hp} {a : Nat} (h : gB G ≤ a ∧ a < s.1) : ∃ k : Nat, (wsO G s)[k]? = some (a, toE G.2.2.1 (s.2.2 a)) := by
  have := va_pl_get (X := []) (L := AL (gB G) s.1) (f := fun a => toE G.2.2.1 (s.2.2 a)) (AL_mem.mpr h)
  exact this
theorem wsO_D {G : Gm} {s : Hp} : va_D (Af G) (wsO G s) := by
  have at' : ∀ (k : Nat) (q : Nat × va_E), (wsO G s)[k]? = some q → q.1 = gB G + k ∧ gB G ≤ q.1 := by
    intro k q h
    unfold wsO va_pl at h
    rw [List.getElem?_map] at h
    cases hb : (AL (gB G) s.1)[k]? with
    | none => rw [hb] at h; cases h
    | some b =>
      rw [hb] at h
      have e : q.1 = b := by cases h; rfl
      have hb2 : b = gB G + k := by
        unfold AL at hb
        obtain ⟨hlt, he⟩ := List.getElem?_eq_some_iff.mp hb
        rw [List.getElem_range'] at he
        omega
      rw [e, hb2]
      omega
  refine ⟨fun i j p q hp hq hpq => ?_, fun k q h => (at' k q h).2⟩
  have h1 := (at' i p hp).1
  have h2 := (at' j q hq).1
  omega
theorem wsO_lt {G : Gm} {s : Hp} {H : Heap} (h : Rep G s H) {a : Nat} (ha : gB G ≤ a ∧ a < s.1) : a < H.size := by
  obtain ⟨k, hk⟩ := wsO_at ha
  exact (h.2 k _ hk).lt
/-- the real heap has just our cells behind the first address -/
theorem Rep.size {p : Program} {l : Launch} {e : Env} {R : Room} {G : Gm} {s : Hp} {H : Heap} {u : State} {m : MethodId} {args : Array Value} {below : List Frame} {meth : Method} {c : Code} {T : State} {locs : List Loc} {slots : Nat}
    (h : Rep G s H) (hn : u.heap.size ≤ s.1) (hb : gB G ≤ u.heap.size) (hS : va_S (Af G) u.heap H locs) (hT : T.heap = H) (X : Stand p l e R u m args below meth c T locs (s.1 - u.heap.size) slots) : H.size = s.1 := by
  have h1 := X.heapSize
  rw [hT] at h1
  have h2 : s.1 ≤ H.size := by
    by_cases hc : gB G < s.1
    · have := wsO_lt h (a := s.1 - 1) (by omega)
      omega
    · have := hS.1
      omega
  omega
