/-! the claim (lw_ rows: the kit's skeleton, given for pasting) -/
def R_law : String := "BalloonGrocersLaw"
def lw_P (b : Addr) (xs : List Int32) (args : Array Value) (s : State) : Prop := args = #[.ref b] ∧ s.IntsAt b xs ∧ xs.length ≤ 3584 ∧ (Jvm.Cond.and given_1 narrow_1).before args s = true
def lw_Q (_ : Array Value) (s : State) (o : Outcome) (t : State) : Prop := o = .returned (some (.int 1)) ∧ Framed s o t [] 600000 7302250
def lw_Z (below : List Frame) (a : Array Value) (s : State) : State → Prop := fun t => ∃ o, t.status = .running ∧ Ended t below o ∧ lw_Q a s o t
def pZs (K : Nat → Nat) : Nat → Nat → PC
  | 0, _ => nilC
  | k + 1, x => if x = K k then (40, k, fun _ => .null) else pZs K k x
theorem pZs_t {K : Nat → Nat} {x : Nat} : ∀ n, ((pZs K n x).1 = 40 ∧ (pZs K n x).2.1 < n ∧ x = K (pZs K n x).2.1) ∨ (pZs K n x).1 = 99
  | 0 => Or.inr rfl
  | k + 1 => by
    show ((if x = K k then ((40, k, fun _ => .null) : PC) else pZs K k x).1 = 40 ∧ (if x = K k then ((40, k, fun _ => .null) : PC) else pZs K k x).2.1 < k + 1 ∧ x = K (if x = K k then ((40, k, fun _ => .null) : PC) else pZs K k x).2.1) ∨ (if x = K k then ((40, k, fun _ => .null) : PC) else pZs K k x).1 = 99
    by_cases h : x = K k
    · rw [if_pos h]
      exact Or.inl ⟨rfl, Nat.lt_succ_self k, h⟩
    · rw [if_neg h]
      rcases pZs_t (K := K) (x := x) k with ⟨a, b, c⟩ | a
      · exact Or.inl ⟨a, Nat.lt_succ_of_lt b, c⟩
      · exact Or.inr a
theorem pZs_k {K : Nat → Nat} {k N : Nat} (inj : ∀ i j : Nat, i < N → j < N → K i = K j → i = j) : ∀ n, n ≤ N → k < n → (pZs K n (K k)).1 = 40 ∧ (pZs K n (K k)).2.1 = k
  | 0, _, h => absurd h (Nat.not_lt_zero k)
  | n + 1, hn, h => by
    show (if K k = K n then ((40, n, fun _ => .null) : PC) else pZs K n (K k)).1 = 40 ∧ (if K k = K n then ((40, n, fun _ => .null) : PC) else pZs K n (K k)).2.1 = k
    by_cases e : K k = K n
    · rw [if_pos e]
      exact ⟨rfl, (inj k n (by omega) (by omega) e).symm⟩
    · rw [if_neg e]
      have ne : k ≠ n := fun q => e (by rw [q])
      exact pZs_k inj n (by omega) (by omega)
theorem room_mono {s : State} {pl : Platform} {r r' : Room} (hf : r.frames ≤ r'.frames) (hl : r.locals ≤ r'.locals) (hc : r.cells ≤ r'.cells) (hs : r.slots ≤ r'.slots) (h : s.hasRoom pl r' = true) : s.hasRoom pl r = true := by
  simp only [State.hasRoom, Bool.and_eq_true, decide_eq_true_eq] at h ⊢
  obtain ⟨⟨⟨⟨h1, h2, h3, h4, h5, h6⟩, h7⟩, h8⟩, h9⟩ := h
  exact ⟨⟨⟨⟨by omega, by omega, by omega, by omega, by omega, h6⟩, by omega⟩, by omega⟩, h9⟩
theorem tb_g {ws : List Cond} (is : List Nat) (h : is.map (fun i => tables_1[i]?) = ws.map some) {w : Cond} (hw : w ∈ ws) : w ∈ lw_tbl := tb_list is h w hw
theorem wd_str : ∀ k, k < 28 → Cond.stringRef RX3 (sIdx.getD k 0) (sTxt.getD k "") ∈ lw_tbl := fun k hk => tb_g (ws := (List.range 28).map (fun k => Cond.stringRef RX3 (sIdx.getD k 0) (sTxt.getD k ""))) [318, 379, 384, 385, 386, 387, 388, 393, 394, 395, 400, 409, 410, 411, 412, 413, 414, 419, 420, 421, 422, 423, 440, 441, 446, 447, 452, 453] (by decide +kernel) (List.mem_map.mpr ⟨k, List.mem_range.mpr hk, rfl⟩)
theorem wd_o6 : Cond.arrayOver (.object RX6) ∈ lw_tbl := tb1_in 104 rfl
theorem wd_o5 : Cond.arrayOver (.object RX5) ∈ lw_tbl := tb1_in 106 rfl
theorem wd_o2 : Cond.arrayOver (.object RX2) ∈ lw_tbl := tb4_in 89 rfl
theorem wd_l0 : Cond.laysStatic RJ0 "COMPACT_STRINGS" "Z" ∈ lw_tbl := tb2_in 96 rfl
theorem wd_l3 : Cond.laysStatic RJ3 "SIOOBE_FORMATTER" "Ljava/util/function/BiFunction;" ∈ lw_tbl := tb2_in 112 rfl
theorem wd_i0 : Cond.initialized RJ0 ∈ lw_tbl := tb1_in 8 rfl
theorem wd_i3 : Cond.initialized RJ3 ∈ lw_tbl := tb1_in 10 rfl
theorem wd_c0 : Cond.instantiable RX0 2 ∈ lw_tbl := tb4_in 39 rfl
theorem wd_c1 : Cond.instantiable RX1 10 ∈ lw_tbl := tb4_in 52 rfl
theorem wd_c2 : Cond.instantiable RX2 5 ∈ lw_tbl := tb4_in 90 rfl
theorem wd_c3 : Cond.instantiable RX3 10 ∈ lw_tbl := tb1_in 28 rfl
theorem wd_c4 : Cond.instantiable RX4 11 ∈ lw_tbl := tb4_in 33 rfl
theorem wd_c5 : Cond.instantiable RX5 3 ∈ lw_tbl := tb1_in 214 rfl
theorem wd_c6 : Cond.instantiable RX6 19 ∈ lw_tbl := tb1_in 107 rfl
theorem wd_c7 : Cond.instantiable RX7 9 ∈ lw_tbl := tb1_in 68 rfl
theorem wd_c8 : Cond.instantiable RX8 13 ∈ lw_tbl := tb1_in 20 rfl
theorem wd_c9 : Cond.instantiable RX9 52 ∈ lw_tbl := tb6_in 189 rfl
theorem nr_c : Cond.eq (.static RJ0 "COMPACT_STRINGS" "Z") (.int 1) ∈ flatC narrow_1 := List.mem_of_getElem? (i := 2) rfl
theorem nr_p : Cond.isRef (.static RJ3 "SIOOBE_FORMATTER" "Ljava/util/function/BiFunction;") ∈ flatC narrow_1 := List.mem_of_getElem? (i := 3) rfl
theorem st_D {args : Array Value} {s : State} (hts : ∀ w ∈ lw_tbl, w.before args s = true) : ∃ D : va_G, ∀ (c : Nat) (q : vw_C), vwCl[c]? = some q → u_Kn s q.1 q.2.1 q.2.2 (D.1 c) (D.2 c) := by
  have h : ∀ c : Nat, ∃ p : ClassId × (Nat → Nat), ∀ q : vw_C, vwCl[c]? = some q → u_Kn s q.1 q.2.1 q.2.2 p.1 p.2 := fun c => by
    by_cases hc : c < 10
    · rcases (show c = 0 ∨ c = 1 ∨ c = 2 ∨ c = 3 ∨ c = 4 ∨ c = 5 ∨ c = 6 ∨ c = 7 ∨ c = 8 ∨ c = 9 by omega) with rfl | rfl | rfl | rfl | rfl | rfl | rfl | rfl | rfl | rfl
      · obtain ⟨a, b, h⟩ := u_known hts inX0 (hts _ wd_c0)
        exact ⟨(a, b), fun q hq => by cases (show some (RX0, TX0, 2) = some q from hq); exact h⟩
      · obtain ⟨a, b, h⟩ := u_known hts inX1 (hts _ wd_c1)
        exact ⟨(a, b), fun q hq => by cases (show some (RX1, TX1, 10) = some q from hq); exact h⟩
      · obtain ⟨a, b, h⟩ := u_known hts inX2 (hts _ wd_c2)
        exact ⟨(a, b), fun q hq => by cases (show some (RX2, TX2, 5) = some q from hq); exact h⟩
      · obtain ⟨a, b, h⟩ := u_known hts inX3 (hts _ wd_c3)
        exact ⟨(a, b), fun q hq => by cases (show some (RX3, TX3, 10) = some q from hq); exact h⟩
      · obtain ⟨a, b, h⟩ := u_known hts inX4 (hts _ wd_c4)
        exact ⟨(a, b), fun q hq => by cases (show some (RX4, TX4, 11) = some q from hq); exact h⟩
      · obtain ⟨a, b, h⟩ := u_known hts inX5 (hts _ wd_c5)
        exact ⟨(a, b), fun q hq => by cases (show some (RX5, TX5, 3) = some q from hq); exact h⟩
      · obtain ⟨a, b, h⟩ := u_known hts inX6 (hts _ wd_c6)
        exact ⟨(a, b), fun q hq => by cases (show some (RX6, TX6, 19) = some q from hq); exact h⟩
      · obtain ⟨a, b, h⟩ := u_known hts inX7 (hts _ wd_c7)
        exact ⟨(a, b), fun q hq => by cases (show some (RX7, TX7, 9) = some q from hq); exact h⟩
      · obtain ⟨a, b, h⟩ := u_known hts inX8 (hts _ wd_c8)
        exact ⟨(a, b), fun q hq => by cases (show some (RX8, TX8, 13) = some q from hq); exact h⟩
      · obtain ⟨a, b, h⟩ := u_known hts inX9 (hts _ wd_c9)
        exact ⟨(a, b), fun q hq => by cases (show some (RX9, TX9, 52) = some q from hq); exact h⟩
    · refine ⟨(0, fun _ => 0), fun q hq => ?_⟩
      have l10 : vwCl.length = 10 := rfl
      rw [List.getElem?_eq_none (by omega)] at hq
      cases hq
  obtain ⟨f, hf⟩ := Classical.axiomOfChoice h
  exact ⟨(fun c => (f c).1, fun c => (f c).2), hf⟩
theorem st_A {args : Array Value} {s : State} (hts : ∀ w ∈ lw_tbl, w.before args s = true) : ∃ tA : Nat → ClassId, ∀ (k : Nat) (q : ClassId × FieldType), (tyO tA)[k]? = some q → ArrOfT s q.1 q.2 ∧ va_RA s q.1 q.2 := by
  have tb : ∀ w ∈ TB, w.before args s = true := fun w hw => hts w (List.mem_filter.mp hw).1
  obtain ⟨c0, a0, b0⟩ := ar_p (ty := .int) (tb _ aw20)
  obtain ⟨c1, a1, b1⟩ := ar_p (ty := .long) (tb _ aw21)
  obtain ⟨c2, a2, b2⟩ := ar_p (ty := .byte) (tb _ aw22)
  obtain ⟨c3, a3, b3⟩ := ar_p (ty := .boolean) (tb _ aw23)
  obtain ⟨c4, a4, b4⟩ := ar_o (hts _ wd_o6)
  obtain ⟨c5, a5, b5⟩ := ar_o (hts _ wd_o5)
  obtain ⟨c6, a6, b6⟩ := ar_o (hts _ wd_o2)
  refine ⟨fun t => if t = 20 then c0 else if t = 21 then c1 else if t = 22 then c2 else if t = 23 then c3 else if t = 24 then c4 else if t = 25 then c5 else c6, fun k q hq => ?_⟩
  by_cases hk : k < 7
  · rcases (show k = 0 ∨ k = 1 ∨ k = 2 ∨ k = 3 ∨ k = 4 ∨ k = 5 ∨ k = 6 by omega) with rfl | rfl | rfl | rfl | rfl | rfl | rfl
    · cases (show some (c0, FieldType.int) = some q from hq); exact ⟨a0, b0⟩
    · cases (show some (c1, FieldType.long) = some q from hq); exact ⟨a1, b1⟩
    · cases (show some (c2, FieldType.byte) = some q from hq); exact ⟨a2, b2⟩
    · cases (show some (c3, FieldType.boolean) = some q from hq); exact ⟨a3, b3⟩
    · cases (show some (c4, FieldType.object RX6) = some q from hq); exact ⟨a4, b4⟩
    · cases (show some (c5, FieldType.object RX5) = some q from hq); exact ⟨a5, b5⟩
    · cases (show some (c6, FieldType.object RX2) = some q from hq); exact ⟨a6, b6⟩
  · rw [List.getElem?_eq_none (by show 7 ≤ k; omega)] at hq
    cases hq
theorem nb_of {w : Cond} (h : isNest w = true) : w.onTables = true := by
  cases w <;> first | rfl | (simp [isNest] at h; done)
/-- what holds at the law's entry: the machine, the code, the tables' words (any of lw_tbl by 'hts w (by decide +kernel)'), the script of L ints xs at the cell b, what the Statement gives of the start (any of its parts by flat_of_before) -/
def lw_At (p : Program) (s : State) (m : MethodId) (meth : Method) (c : Code) (b L : Nat) (xs : Nat → Int32) : Prop :=
  p.tables.exec = Jvm.exec ∧ c.code = code ∧ meth.sig.returnType = ret ∧ c.maxLocals = 4 ∧ s.vm.findClass R_law = some m.cls ∧ (∀ w ∈ lw_tbl, w.before #[Value.ref b] s = true) ∧ va_X b L xs s s.heap ∧ b < s.heap.size ∧ meth.locks = false ∧ (Jvm.Cond.and given_1 narrow_1).before #[Value.ref b] s = true
set_option maxHeartbeats 4000000 in
theorem whole_start {p : Program} {e : Env} {s : State} {m : MethodId} {below : List Frame} {meth : Method} {c : Code} (l : Launch) {b L : Nat} {xs : Nat → Int32} (hL : L ≤ 3584) (C0 : lw_At p s m meth c b L xs) (hname : meth.name = "law") : W p l e room_1 s m #[Value.ref b] below meth c s.heap [] 0 0 (lw_Z below #[Value.ref b] s) (entryFrame m ([Value.ref b] : List Value).toArray 4) := by
  obtain ⟨hx, hb, hr, hml, hown, hts, hX, hbl, hlk, hgv⟩ := C0
  have hs1 := flat_of_before _ hgv
  have hs : ∀ c ∈ flatC narrow_1, c.before #[Value.ref b] s = true := fun c hc => hs1 c (List.mem_append_right _ hc)
  have hA : ∀ a : Nat, a < s.heap.size → ¬ (fun q : Nat => s.heap.size ≤ q) a := fun a ha h => absurd ha (Nat.not_lt.mpr h)
  obtain ⟨D, hD⟩ := st_D hts
  obtain ⟨tA, htA⟩ := st_A hts
  obtain ⟨adK, adV, hS, hK⟩ := st_S (A := fun q : Nat => s.heap.size ≤ q) hs hA
  have kb : ∀ k, k < 28 → adK k < s.heap.size := fun k hk => by
    obtain ⟨⟨cell, h1, -⟩, -⟩ := hS.1 k hk
    exact (Array.getElem?_eq_some_iff.mp h1).1
  -- what is fixed, and the plain heap at the start
  have hE : Ext (l, D, tA, s.heap.size, adK, adV, b, L, xs) s := ⟨⟨hD, htA⟩, Nat.le_refl _, ⟨hX, hbl⟩, fun w hw => va_Nw.of (nb_of (List.mem_filter.mp hw).2) (hts w (List.mem_append_right _ (List.mem_filter.mp hw).1)), ⟨va_AO.of (hts _ wd_o6), va_AO.of (hts _ wd_o5), va_AO.of (hts _ wd_o2)⟩, hS, fun k hk => vk_R.of (hts _ (wd_str k hk)) (hK k hk), va_Zof (hts _ wd_l0) (hts _ wd_i0) (va_eqt (hs _ nr_c)) hA, va_Zqof (hts _ wd_l3) (hts _ wd_i3) (hs _ nr_p) hA⟩
  have hR : Rep (l, D, tA, s.heap.size, adK, adV, b, L, xs) (RH s.heap.size (pZs adK 28) 0 []) s.heap := by
    refine ⟨⟨Nat.le_refl _, fun a ha => ?_, fun a ha => ?_⟩, fun k q hq => ?_⟩
    · have e : ((RH s.heap.size (pZs adK 28) 0 []).2.2 a).1 = (if a < s.heap.size then pZs adK 28 a else nilC).1 := rfl
      rw [e] at ha
      exfalso
      by_cases q : a < s.heap.size
      · rw [if_pos q] at ha
        rcases pZs_t (K := adK) (x := a) 28 with ⟨w, -⟩ | w <;> omega
      · rw [if_neg q] at ha
        have : nilC.1 = 99 := rfl
        omega
    · have e : (RH s.heap.size (pZs adK 28) 0 []).2.2 a = (if a < s.heap.size then pZs adK 28 a else nilC) := rfl
      rw [e] at ha ⊢
      by_cases q : a < s.heap.size
      · rw [if_pos q] at ha ⊢
        rcases pZs_t (K := adK) (x := a) 28 with ⟨w, w2, w3⟩ | w
        · exact ⟨w2, w3⟩
        · omega
      · rw [if_neg q] at ha
        have : nilC.1 = 99 := rfl
        omega
    · have e : wsO (l, D, tA, s.heap.size, adK, adV, b, L, xs) (RH s.heap.size (pZs adK 28) 0 []) = [] := by
        show va_pl (AL s.heap.size (s.heap.size + 0)) _ = []
        unfold AL va_pl
        rw [Nat.add_zero, Nat.sub_self]
        rfl
      rw [e] at hq
      cases hq
  have hSTR : STR (Ev0 s.heap.size (pZs adK 28)) adK := fun k hk => ⟨kb k hk, pZs_k hS.2 28 (Nat.le_refl _) hk⟩
  obtain ⟨E', B', n', m', g1, g2, g3⟩ := law_loop (N := L) (xs := xs) (b0_Rl hSTR) hL
  have hw : fL_law adK L xs (RH s.heap.size (pZs adK 28) 0 []) = some (iI 1, St E' B') := by
    rw [law_made]
    have g1' : iter (fL_law_l18 L xs adK (s.heap.size + co) (s.heap.size + mo)) FU (iI 0, St (Ev0 s.heap.size (pZs adK 28)) b0) = some (.inl (St E' B')) := g1
    rw [g1', some_bind]
    rfl
  have kL := kL_law (G := (l, D, tA, s.heap.size, adK, adV, b, L, xs)) hw
  have hC : Cx (l, D, tA, s.heap.size, adK, adV, b, L, xs) ML_law p s m #[Value.ref b] meth c := ⟨hx, hb, hr, hml, hown, fun w hw => hts w (List.mem_filter.mp hw).1, hlk, hname, hE⟩
  have run := kL.2 p e s m #[Value.ref b] below meth c s.heap [] _ 0 hC (Nat.le_refl _) (Nat.le_refl _) hR va_S.rf (lv_entry [Value.ref b] (n := 4) (Nat.le_of_ble_eq_true rfl))
  have ro := g3.2.2.2.2.2.2.2.2.2
  have c1 : E'.2.2.2.1 ≤ 619 ∧ E'.2.2.2.2 ≤ 139832 := by
    obtain ⟨-, r | ⟨d, -, -, -, -, r1, r2⟩⟩ := ro
    · omega
    · omega
  have eh : E'.1 = s.heap.size := g2
  have rc : (St E' B').1 - s.heap.size = E'.2.2.2.1 := by
    show E'.1 + E'.2.2.2.1 - s.heap.size = _
    rw [eh]
    omega
  rw [lg_entry_eq]
  intro T hT X
  obtain ⟨t, a1, o, a2, a3, ⟨a4, a5, a6⟩, Lc, ⟨a7, a8, a9⟩, a10⟩ := run T hT { X with room := room_mono (r' := room_1) (Nat.le_refl 14) (Nat.le_refl 520) (by show (St E' B').1 - s.heap.size ≤ 600000; omega) (by show (St E' B').2.1 - 0 ≤ 7302250; show E'.2.2.2.2 - 0 ≤ 7302250; omega) X.room, same := X.same.mono (by show 0 ≤ _; omega) (by show 0 ≤ _; omega) }
  refine ⟨t, a1, o, a2, a3, ?_, ⟨_, a4⟩, a8, ?_⟩
  · rw [a4]
    rfl
  · refine a9.weaken (fun y hy hlt => absurd hlt (Nat.not_lt.mpr (a10 y hy))) ?_ ?_
    · show (St E' B').1 - s.heap.size ≤ 600000
      omega
    · show E'.2.2.2.2 - 0 ≤ 7302250
      omega
set_option maxHeartbeats 4000000 in
theorem lw_walk (l : Launch) (hflags : l.flags = flags0) (b : Addr) (xs : List Int32) : MetFree l x (headSpec (Jvm.Cond.code x code maxLocals ret :: tables_1) room_1) (lw_P b xs) (fun _ _ _ _ _ => True) lw_Q := by
  refine MetFree.of_bodyS (code := code) (maxLocals := maxLocals) (ret := ret) (by decide) ?_ ?_
  · intro args s m h hn
    obtain ⟨meth, c, h1, h2, h3, h4, h5, h6, -, -⟩ := Cond.code_spec hn (atoms_spec (ws := Jvm.Cond.code x code maxLocals ret :: tables_1) h _ List.mem_cons_self)
    exact ⟨meth, c, h1, h2, h3, h4, h5, h6⟩
  · intro p e s m args below meth c s₁ B hml0 hP _
    obtain ⟨rfl, hx, hbd, hgv⟩ := hP
    obtain ⟨scr, harrAt, hlist, hof, hsmall⟩ := hx
    obtain ⟨hcb, hkn, -, -⟩ := State.arrayAt?_spec harrAt
    have hown : s.vm.findClass R_law = some m.cls := findClass_of_methodNamed B.named
    have hts0 : ∀ c ∈ (Jvm.Cond.code x code maxLocals ret :: tables_1), c.before #[Value.ref b] s = true := atoms_spec (ws := Jvm.Cond.code x code maxLocals ret :: tables_1) B.pre
    have hts : ∀ w ∈ lw_tbl, w.before #[Value.ref b] s = true := k2_hts_sels lw_privs (fun w hw => hts0 w (List.mem_cons_of_mem _ hw)) lw_privs_ok
    have hml : c.maxLocals = 4 := B.maxLocals_eq (hts0 _ List.mem_cons_self)
    have X₀ : Stand p l e room_1 s m #[Value.ref b] below meth c s₁ [] 0 0 := Stand.of_body B
    have hh0 : s₁.heap = s.heap := by rw [B.state]; rfl
    have hsz : scr.slots.size = xs.length := by rw [← Array.length_toList, hlist, List.length_map]
    have hval : ∀ j : Nat, j < xs.length → scr.slots[j]? = some (.int (xs.getD j 0)) := fun j hj => by
      rw [← Array.getElem?_toList, hlist]
      simp [hj]
    have hbl : b < s.heap.size := (Array.getElem?_eq_some_iff.mp hcb).1
    have hX : va_X b xs.length (fun j => xs.getD j 0) s s.heap := ⟨scr, hcb, hof, hkn, hsz, hval⟩
    have K : W p l e room_1 s m #[Value.ref b] below meth c s₁.heap [] 0 0 (lw_Z below #[Value.ref b] s) (entryFrame m ([Value.ref b] : List Value).toArray 4) := by
      rw [hh0]
      exact whole_start l hbd ⟨B.exec, B.bytes, B.returns, hml, hown, hts, hX, hbl, B.notSynchronized, hgv⟩ (name_of_methodNamed B.named B.method).1
    obtain ⟨t, a1, o, b1, b2, b3⟩ := K s₁ rfl X₀
    exact ⟨t, o, a1, b1, b2, b3⟩
theorem lw_pre_spec {args : Array Value} {s : State} (h : (Jvm.Cond.and given_1 narrow_1).before args s = true) (hr : rest_1_c.before args s = true) : ∃ (b : Addr) (xs : List Int32), lw_P b xs args s := by
  have hs := flat_of_before _ h
  have hq := flat_of_before _ hr
  have hc : (Cond.count 1).before args s = true := hs _ (by decide +kernel)
  have harr : (Cond.arrayOf (.arg 0) .int).before args s = true := hs _ (by decide +kernel)
  have hle : (Cond.le (.length (.arg 0)) (.int 3584)).before args s = true := hs _ (by decide +kernel)
  have hlen : (Cond.isInt (.length (.arg 0))).before args s = true := hq _ (by decide +kernel)
  have hall : (Cond.all (.arg 0) (.isInt (.elem (.arg 0) (.index 0)))).before args s = true := hq _ (by decide +kernel)
  obtain ⟨b, xs, hb, hx⟩ := State.ints_of_pre rfl harr hlen hall
  have hsm : xs.length < 2 ^ 31 := hx.choose_spec.2.2.2
  have hev : (Term.length (.arg 0)).eval args s none [] s = some (.int xs.length.toInt32) := hx.length_eval hb
  have hv := Cond.le_ints hev (show (Term.int 3584).eval args s none [] s = some (.int 3584) from rfl)
  have hd : xs.length.toInt32 ≤ 3584 := by
    simpa [Cond.before, Cond.holds, hv] using hle
  have hN : xs.length ≤ 3584 := (Int32.ofNat_le_ofNat hsm (by decide)).mp (show Int32.ofNat xs.length ≤ Int32.ofNat 3584 from hd)
  exact ⟨b, xs, Cond.one_arg hc (show args[0]? = some (.ref b) from hb), hx, hN, h⟩
theorem lw_comes (l : Launch) (hflags : l.flags = flags0) : Comes l x (Jvm.Cond.code x code maxLocals ret :: tables_1) room_1 (fun tb e args s => Calls_1 tb e args s ∧ rest_1 tb e args s ∧ Pre_1 tb e args s)
    (fun _ _ args s o t => lw_Q args s o t) := by
  intro p e ha hc hk s m args below hf hfit hheap happ hpre
  obtain ⟨b, xs, hP⟩ := lw_pre_spec hpre.2.2 hpre.2.1
  obtain ⟨k, o, h1, h2, h3, hQ⟩ := lw_walk l hflags b xs p e ha hc hk s m args below hf ((Spec.applies_iff_loose hf).mp happ).1 hP trivial
  exact ⟨k, o, h1, h2, h3, hQ⟩
theorem lw_frame {s t : State} {o : Outcome} {args : Array Value} (h : Framed s o t [] 600000 7302250) :
    Framed s o t (fieldLocs frame_1_writes args s ++ arrayLocs frame_1_arrays args s ++ staticLocs frame_1_statics s) 600000 7302250 := h
theorem lw_limb (L : Cond) (hL : ∀ (args : Array Value) (s t : State), L.after args s (.returned (some (.int 1))) t = true) :
    ArmFor flags0 classFile x code maxLocals ret World_1 tables_1 room_1 Calls_1 rest_1 Pre_1
      (fun tb e a s o t => postC L tb e a s o t ∧ Framed s o t (fieldLocs frame_1_writes a s ++ arrayLocs frame_1_arrays a s ++ staticLocs frame_1_statics s) 600000 7302250) := by
  intro l hflags _ _ p e ha hc hk s m args below hf hfit hheap happ hpre
  obtain ⟨k, o, h1, h2, h3, rfl, hF⟩ := lw_comes l hflags p e ha hc hk s m args below hf hfit hheap happ hpre
  exact ⟨k, _, h1, h2, h3, hL args s _, lw_frame hF⟩
theorem i_vc : Claimed_1_1 ∧ Claimed_1_2 := ⟨lw_limb limb_1_1 (fun args s t => by simp [limb_1_1, Cond.after, Cond.holds, Cond.value]), lw_limb limb_1_2 (fun args s t => Cond.after_iff.mpr (by
  first | (rw [show limb_1_2 = Cond.eq .result (.int 1) from rfl, Cond.eq_ints (x := 1) (y := 1) rfl rfl]; simp; done) | (simp [limb_1_2, Cond.value, Term.eval]; done)))⟩
