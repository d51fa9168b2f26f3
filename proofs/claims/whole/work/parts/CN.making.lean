/-! things under construction: raw cells behind an address; the constructors (gen/make.py) -/
/-- raw cells L from address a on, P ahead of them -/
def RH (a : Nat) (P : Nat → PC) (m : Nat) (L : List PC) : Hp := (a + L.length, m, fun x => if x < a then P x else L.getD (x - a) nilC)
def Pp (a : Nat) (P : Nat → PC) (L : List PC) : Nat → PC := fun x => if x < a then P x else L.getD (x - a) nilC
def zC (t n : Nat) (v : Value) : PC := (t, n, fun _ => v)
theorem bind_of {α β : Type} {o : Option α} {k : α → Option β} {x : α} {r : Option β} (h : o = some x) (g : k x = r) : o.bind k = r := by rw [h]; exact g
theorem lt_of {α β : Type} {x y : α} {k : α → β} {r : β} (h : x = y) (g : k y = r) : lt_ x k = r := by subst h; exact g
theorem gdL_b {α : Type} {L M : List α} {i : Nat} {z : α} : (L ++ M).getD (L.length + i) z = M.getD i z := by
  rw [List.getD_eq_getElem?_getD, List.getD_eq_getElem?_getD, List.getElem?_append_right (by omega), Nat.add_sub_cancel_left]
theorem gdL_set {L : List PC} {i k : Nat} {c : PC} (hi : i < L.length) : (L.set i c).getD k nilC = if k = i then c else L.getD k nilC := by
  by_cases h : k = i
  · subst h
    rw [if_pos rfl]
    simp [List.getD, hi]
  · rw [if_neg h]
    have ne : ¬ i = k := fun e => h e.symm
    simp [List.getD, ne]
theorem it_F3 {σ ρ : Type} {F : σ → Option (σ ⊕ ρ)} {a0 a1 a2 a3 : σ} {r : ρ} (h0 : F a0 = some (.inl a1)) (h1 : F a1 = some (.inl a2)) (h2 : F a2 = some (.inl a3)) (hx : F a3 = some (.inr r)) : iter F FU a0 = some r := by
  have e : FU = 999996 + 1 + 1 + 1 + 1 := rfl
  rw [e, iter_l h0, iter_l h1, iter_l h2, iter_r hx (by omega)]
theorem it_F4 {σ ρ : Type} {F : σ → Option (σ ⊕ ρ)} {a0 a1 a2 a3 a4 : σ} {r : ρ} (h0 : F a0 = some (.inl a1)) (h1 : F a1 = some (.inl a2)) (h2 : F a2 = some (.inl a3)) (h3 : F a3 = some (.inl a4)) (hx : F a4 = some (.inr r)) : iter F FU a0 = some r := by
  have e : FU = 999995 + 1 + 1 + 1 + 1 + 1 := rfl
  rw [e, iter_l h0, iter_l h1, iter_l h2, iter_l h3, iter_r hx (by omega)]
section RHS
variable {a m : Nat} {P : Nat → PC} {L L0 L2 : List PC}
theorem RH_app : RH a P m (L0 ++ L) = RH (a + L0.length) (Pp a P L0) m L := by
  unfold RH Pp
  refine Prod.ext ?_ (Prod.ext rfl ?_)
  · show a + (L0 ++ L).length = a + L0.length + L.length
    rw [List.length_append]
    omega
  · funext x
    dsimp only
    by_cases h : x < a
    · rw [if_pos h, if_pos (by omega), if_pos h]
    · rw [if_neg h]
      by_cases q : x < a + L0.length
      · rw [if_pos q, if_neg h, gdL_a (by omega)]
      · rw [if_neg q, show x - a = L0.length + (x - (a + L0.length)) by omega, gdL_b]
theorem Rw_RH {E : Ev} {B : Bk} : Rw E B m L = RH (E.1 + E.2.2.2.1) (St E B).2.2 (E.2.2.2.2 + m) L := by
  unfold Rw RH
  refine Prod.ext ?_ (Prod.ext rfl rfl)
  show E.1 + (E.2.2.2.1 + L.length) = E.1 + E.2.2.2.1 + L.length
  omega
theorem RH_at {k : Nat} : (RH a P m L).2.2 (a + k) = L.getD k nilC := by
  unfold RH
  dsimp only
  rw [if_neg (by omega), Nat.add_sub_cancel_left]
theorem RH_mk {c : PC} : mk (RH a P m L) c = RH a P (m + c.2.1) (L ++ [c]) := by
  unfold mk RH
  refine Prod.ext ?_ (Prod.ext rfl ?_)
  · show a + L.length + 1 = a + (L ++ [c]).length
    rw [List.length_append]
    rfl
  · funext x
    dsimp only
    unfold va_up
    by_cases h0 : x = a + L.length
    · subst h0
      rw [if_pos rfl, if_neg (by omega), Nat.add_sub_cancel_left]
      simp
    · rw [if_neg h0]
      dsimp only
      by_cases h : x < a
      · rw [if_pos h, if_pos h]
      · rw [if_neg h, if_neg h]
        rcases Nat.lt_or_ge (x - a) L.length with q | q
        · rw [gdL_a q]
        · rw [gdL_d q, gdL_d (by rw [List.length_append]; show L.length + 1 ≤ x - a; omega)]
theorem RH_mkA {t k : Nat} {v : Value} (h : k ≤ 60000) : mkA (RH a P m L) t (iI (k : Int)) v = some (RH a P (m + k) (L ++ [(t, k, fun _ => v)])) := by
  have cl := iI_cl (z := (k : Int)) (n := 60001) (by omega) (by omega) (by omega)
  have e : (iI (k : Int)).toNatClampNeg = k := by omega
  unfold mkA
  rw [if_pos ⟨fun y => cl.1 (Or.inl y), by omega⟩, e, RH_mk]
theorem RH_cu {i : Nat} {c : PC} (hi : i < L.length) : cu (RH a P m L) (a + i) c = RH a P m (L.set i c) := by
  unfold cu RH
  refine Prod.ext ?_ (Prod.ext rfl ?_)
  · show a + L.length = a + (L.set i c).length
    rw [List.length_set]
  · funext x
    dsimp only
    unfold va_up
    by_cases h0 : x = a + i
    · subst h0
      rw [if_pos rfl, if_neg (by omega), Nat.add_sub_cancel_left, gdL_set hi, if_pos rfl]
    · rw [if_neg h0]
      dsimp only
      by_cases h : x < a
      · rw [if_pos h, if_pos h]
      · rw [if_neg h, if_neg h, gdL_set hi, if_neg (by omega)]
theorem RH_ck {x k ci : Nat} (e : x = a + k) (h : (L.getD k nilC).1 = ci) : ck (RH a P m L) x ci = some () := by
  subst e
  unfold ck
  rw [RH_at, if_pos h]
theorem RH_p {x k ci j : Nat} {v : Value} (e : x = a + k) (hk : k < L.length) (h1 : (L.getD k nilC).1 = ci) (h2 : j < (L.getD k nilC).2.1) (hL : L2 = L.set k (upC (L.getD k nilC) j v)) : ptV (RH a P m L) x ci j v = some (RH a P m L2) := by
  subst e
  subst hL
  unfold ptV wr
  rw [RH_at, if_pos ⟨h1, h2⟩, RH_cu hk]
  rfl
theorem RH_gR {x k ci j v : Nat} (e : x = a + k) (h1 : (L.getD k nilC).1 = ci) (h2 : j < (L.getD k nilC).2.1) (h3 : (L.getD k nilC).2.2 j = .ref v) : gR (RH a P m L) x ci j = some v := by
  subst e
  unfold gR gtV
  rw [RH_at, if_pos ⟨h1, h2⟩, h3]
  rfl
theorem RH_sR {x y k q t ci i : Nat} (e : x = a + k) (hk : k < L.length) (e2 : y = a + q) (hx : (L.getD q nilC).1 = ci) (h1 : (L.getD k nilC).1 = t) (h2 : i < (L.getD k nilC).2.1) (h3 : (L.getD k nilC).2.1 ≤ 60000) (hL : L2 = L.set k (upC (L.getD k nilC) i (.ref y))) : sR (RH a P m L) t ci x (iI (i : Int)) y = some (RH a P m L2) := by
  subst e
  subst e2
  subst hL
  have cl := iI_cl (z := (i : Int)) (n := (L.getD k nilC).2.1) (by omega) (by omega) (by omega)
  have e : (iI (i : Int)).toNatClampNeg = i := by omega
  unfold sR stV wr
  rw [RH_at, if_pos hx, RH_at, if_pos ⟨h1, cl.1⟩, e, RH_cu hk]
  rfl
theorem RH_sI {x k i : Nat} {v : Int32} (e : x = a + k) (hk : k < L.length) (h1 : (L.getD k nilC).1 = 20) (h2 : i < (L.getD k nilC).2.1) (h3 : (L.getD k nilC).2.1 ≤ 60000) (hL : L2 = L.set k (upC (L.getD k nilC) i (.int v))) : sI (RH a P m L) x (iI (i : Int)) v = some (RH a P m L2) := by
  subst e
  subst hL
  have cl := iI_cl (z := (i : Int)) (n := (L.getD k nilC).2.1) (by omega) (by omega) (by omega)
  have e : (iI (i : Int)).toNatClampNeg = i := by omega
  unfold sI stV wr
  rw [RH_at, if_pos ⟨h1, cl.1⟩, e, RH_cu hk]
  rfl

theorem j0_ : fX0_init a (RH a P m [(0, 2, df0)]) = some (RH a P (m + 5) [(0, 2, va_up (df0) 0 (.ref (a + 1))), zC 21 5 (.long 0)]) := by
  unfold fX0_init
  refine bind_of (RH_ck (k := 0) (L := [(0, 2, df0)]) rfl rfl) ?_
  refine bind_of (RH_mkA (k := 5) (L := [(0, 2, df0)]) (Nat.le_of_ble_eq_true rfl)) ?_
  refine bind_of (RH_p (k := 0) (L := [(0, 2, df0), zC 21 5 (.long 0)]) (L2 := [(0, 2, va_up (df0) 0 (.ref (a + 1))), zC 21 5 (.long 0)]) rfl (Nat.le_of_ble_eq_true rfl) rfl (Nat.le_of_ble_eq_true rfl) rfl) ?_
  rfl
theorem i0_ {b : Nat} (hb : b = a + L0.length) : fX0_init b (RH a P m (L0 ++ [(0, 2, df0)])) = some (RH a P (m + 5) (L0 ++ [(0, 2, va_up (df0) 0 (.ref (b + 1))), zC 21 5 (.long 0)])) := by
  subst hb
  rw [RH_app, RH_app]
  exact j0_
theorem j1_ : fX1_init a (RH a P m [(1, 10, df1)]) = some (RH a P (m + 24) [(1, 10, va_up (va_up (df1) 0 (.ref (a + 1))) 6 (.int (iI (-1)))), zC 20 24 (.int 0)]) := by
  unfold fX1_init
  refine bind_of (RH_ck (k := 0) (L := [(1, 10, df1)]) rfl rfl) ?_
  refine bind_of (RH_mkA (k := 24) (L := [(1, 10, df1)]) (Nat.le_of_ble_eq_true rfl)) ?_
  refine bind_of (RH_p (k := 0) (L := [(1, 10, df1), zC 20 24 (.int 0)]) (L2 := [(1, 10, va_up (df1) 0 (.ref (a + 1))), zC 20 24 (.int 0)]) rfl (Nat.le_of_ble_eq_true rfl) rfl (Nat.le_of_ble_eq_true rfl) rfl) ?_
  refine bind_of (RH_p (k := 0) (L := [(1, 10, va_up (df1) 0 (.ref (a + 1))), zC 20 24 (.int 0)]) (L2 := [(1, 10, va_up (va_up (df1) 0 (.ref (a + 1))) 6 (.int (iI (-1)))), zC 20 24 (.int 0)]) rfl (Nat.le_of_ble_eq_true rfl) rfl (Nat.le_of_ble_eq_true rfl) rfl) ?_
  rfl
theorem i1_ {b : Nat} (hb : b = a + L0.length) : fX1_init b (RH a P m (L0 ++ [(1, 10, df1)])) = some (RH a P (m + 24) (L0 ++ [(1, 10, va_up (va_up (df1) 0 (.ref (b + 1))) 6 (.int (iI (-1)))), zC 20 24 (.int 0)])) := by
  subst hb
  rw [RH_app, RH_app]
  exact j1_
theorem j2_ : fX2_init a (RH a P m [(2, 5, df2)]) = some (RH a P (m + 1200 + 32 + 32) [(2, 5, va_up (va_up (va_up (df2) 0 (.ref (a + 1))) 1 (.ref (a + 2))) 2 (.ref (a + 3))), zC 21 1200 (.long 0), zC 20 32 (.int 0), zC 20 32 (.int 0)]) := by
  unfold fX2_init
  refine bind_of (RH_ck (k := 0) (L := [(2, 5, df2)]) rfl rfl) ?_
  refine bind_of (RH_mkA (k := 1200) (L := [(2, 5, df2)]) (Nat.le_of_ble_eq_true rfl)) ?_
  refine bind_of (RH_p (k := 0) (L := [(2, 5, df2), zC 21 1200 (.long 0)]) (L2 := [(2, 5, va_up (df2) 0 (.ref (a + 1))), zC 21 1200 (.long 0)]) rfl (Nat.le_of_ble_eq_true rfl) rfl (Nat.le_of_ble_eq_true rfl) rfl) ?_
  refine bind_of (RH_mkA (k := 32) (L := [(2, 5, va_up (df2) 0 (.ref (a + 1))), zC 21 1200 (.long 0)]) (Nat.le_of_ble_eq_true rfl)) ?_
  refine bind_of (RH_p (k := 0) (L := [(2, 5, va_up (df2) 0 (.ref (a + 1))), zC 21 1200 (.long 0), zC 20 32 (.int 0)]) (L2 := [(2, 5, va_up (va_up (df2) 0 (.ref (a + 1))) 1 (.ref (a + 2))), zC 21 1200 (.long 0), zC 20 32 (.int 0)]) rfl (Nat.le_of_ble_eq_true rfl) rfl (Nat.le_of_ble_eq_true rfl) rfl) ?_
  refine bind_of (RH_mkA (k := 32) (L := [(2, 5, va_up (va_up (df2) 0 (.ref (a + 1))) 1 (.ref (a + 2))), zC 21 1200 (.long 0), zC 20 32 (.int 0)]) (Nat.le_of_ble_eq_true rfl)) ?_
  refine bind_of (RH_p (k := 0) (L := [(2, 5, va_up (va_up (df2) 0 (.ref (a + 1))) 1 (.ref (a + 2))), zC 21 1200 (.long 0), zC 20 32 (.int 0), zC 20 32 (.int 0)]) (L2 := [(2, 5, va_up (va_up (va_up (df2) 0 (.ref (a + 1))) 1 (.ref (a + 2))) 2 (.ref (a + 3))), zC 21 1200 (.long 0), zC 20 32 (.int 0), zC 20 32 (.int 0)]) rfl (Nat.le_of_ble_eq_true rfl) rfl (Nat.le_of_ble_eq_true rfl) rfl) ?_
  rfl
theorem i2_ {b : Nat} (hb : b = a + L0.length) : fX2_init b (RH a P m (L0 ++ [(2, 5, df2)])) = some (RH a P (m + 1200 + 32 + 32) (L0 ++ [(2, 5, va_up (va_up (va_up (df2) 0 (.ref (b + 1))) 1 (.ref (b + 2))) 2 (.ref (b + 3))), zC 21 1200 (.long 0), zC 20 32 (.int 0), zC 20 32 (.int 0)])) := by
  subst hb
  rw [RH_app, RH_app]
  exact j2_
theorem j3_ : fX3_init a (RH a P m [(3, 10, df3)]) = some (RH a P (m) [(3, 10, va_up (df3) 1 (.int (iI (-1))))]) := by
  unfold fX3_init
  refine bind_of (RH_ck (k := 0) (L := [(3, 10, df3)]) rfl rfl) ?_
  refine bind_of (RH_p (k := 0) (L := [(3, 10, df3)]) (L2 := [(3, 10, va_up (df3) 1 (.int (iI (-1))))]) rfl (Nat.le_of_ble_eq_true rfl) rfl (Nat.le_of_ble_eq_true rfl) rfl) ?_
  rfl
theorem i3_ {b : Nat} (hb : b = a + L0.length) : fX3_init b (RH a P m (L0 ++ [(3, 10, df3)])) = some (RH a P (m) (L0 ++ [(3, 10, va_up (df3) 1 (.int (iI (-1))))])) := by
  subst hb
  rw [RH_app, RH_app]
  exact j3_
theorem j5_ : fX5_init a (RH a P m [(5, 3, df5)]) = some (RH a P (m + 60) [(5, 3, va_up (va_up (df5) 0 (.ref (a + 1))) 1 (.int (iI (-1)))), zC 21 60 (.long 0)]) := by
  unfold fX5_init
  refine bind_of (RH_ck (k := 0) (L := [(5, 3, df5)]) rfl rfl) ?_
  refine bind_of (RH_mkA (k := 60) (L := [(5, 3, df5)]) (Nat.le_of_ble_eq_true rfl)) ?_
  refine bind_of (RH_p (k := 0) (L := [(5, 3, df5), zC 21 60 (.long 0)]) (L2 := [(5, 3, va_up (df5) 0 (.ref (a + 1))), zC 21 60 (.long 0)]) rfl (Nat.le_of_ble_eq_true rfl) rfl (Nat.le_of_ble_eq_true rfl) rfl) ?_
  refine bind_of (RH_p (k := 0) (L := [(5, 3, va_up (df5) 0 (.ref (a + 1))), zC 21 60 (.long 0)]) (L2 := [(5, 3, va_up (va_up (df5) 0 (.ref (a + 1))) 1 (.int (iI (-1)))), zC 21 60 (.long 0)]) rfl (Nat.le_of_ble_eq_true rfl) rfl (Nat.le_of_ble_eq_true rfl) rfl) ?_
  rfl
theorem i5_ {b : Nat} (hb : b = a + L0.length) : fX5_init b (RH a P m (L0 ++ [(5, 3, df5)])) = some (RH a P (m + 60) (L0 ++ [(5, 3, va_up (va_up (df5) 0 (.ref (b + 1))) 1 (.int (iI (-1)))), zC 21 60 (.long 0)])) := by
  subst hb
  rw [RH_app, RH_app]
  exact j5_
theorem j6_ : fX6_init a (RH a P m [(6, 19, df6)]) = some (RH a P (m + 120 + 24 + 15 + 96 + 240) [(6, 19, va_up (va_up (va_up (va_up (va_up (va_up (df6) 10 (.int (iI (-1)))) 14 (.ref (a + 1))) 15 (.ref (a + 2))) 16 (.ref (a + 3))) 17 (.ref (a + 4))) 18 (.ref (a + 5))), zC 20 120 (.int 0), zC 20 24 (.int 0), zC 20 15 (.int 0), zC 20 96 (.int 0), zC 20 240 (.int 0)]) := by
  unfold fX6_init
  refine bind_of (RH_ck (k := 0) (L := [(6, 19, df6)]) rfl rfl) ?_
  refine bind_of (RH_p (k := 0) (L := [(6, 19, df6)]) (L2 := [(6, 19, va_up (df6) 10 (.int (iI (-1))))]) rfl (Nat.le_of_ble_eq_true rfl) rfl (Nat.le_of_ble_eq_true rfl) rfl) ?_
  refine bind_of (RH_mkA (k := 120) (L := [(6, 19, va_up (df6) 10 (.int (iI (-1))))]) (Nat.le_of_ble_eq_true rfl)) ?_
  refine bind_of (RH_p (k := 0) (L := [(6, 19, va_up (df6) 10 (.int (iI (-1)))), zC 20 120 (.int 0)]) (L2 := [(6, 19, va_up (va_up (df6) 10 (.int (iI (-1)))) 14 (.ref (a + 1))), zC 20 120 (.int 0)]) rfl (Nat.le_of_ble_eq_true rfl) rfl (Nat.le_of_ble_eq_true rfl) rfl) ?_
  refine bind_of (RH_mkA (k := 24) (L := [(6, 19, va_up (va_up (df6) 10 (.int (iI (-1)))) 14 (.ref (a + 1))), zC 20 120 (.int 0)]) (Nat.le_of_ble_eq_true rfl)) ?_
  refine bind_of (RH_p (k := 0) (L := [(6, 19, va_up (va_up (df6) 10 (.int (iI (-1)))) 14 (.ref (a + 1))), zC 20 120 (.int 0), zC 20 24 (.int 0)]) (L2 := [(6, 19, va_up (va_up (va_up (df6) 10 (.int (iI (-1)))) 14 (.ref (a + 1))) 15 (.ref (a + 2))), zC 20 120 (.int 0), zC 20 24 (.int 0)]) rfl (Nat.le_of_ble_eq_true rfl) rfl (Nat.le_of_ble_eq_true rfl) rfl) ?_
  refine bind_of (RH_mkA (k := 15) (L := [(6, 19, va_up (va_up (va_up (df6) 10 (.int (iI (-1)))) 14 (.ref (a + 1))) 15 (.ref (a + 2))), zC 20 120 (.int 0), zC 20 24 (.int 0)]) (Nat.le_of_ble_eq_true rfl)) ?_
  refine bind_of (RH_p (k := 0) (L := [(6, 19, va_up (va_up (va_up (df6) 10 (.int (iI (-1)))) 14 (.ref (a + 1))) 15 (.ref (a + 2))), zC 20 120 (.int 0), zC 20 24 (.int 0), zC 20 15 (.int 0)]) (L2 := [(6, 19, va_up (va_up (va_up (va_up (df6) 10 (.int (iI (-1)))) 14 (.ref (a + 1))) 15 (.ref (a + 2))) 16 (.ref (a + 3))), zC 20 120 (.int 0), zC 20 24 (.int 0), zC 20 15 (.int 0)]) rfl (Nat.le_of_ble_eq_true rfl) rfl (Nat.le_of_ble_eq_true rfl) rfl) ?_
  refine bind_of (RH_mkA (k := 96) (L := [(6, 19, va_up (va_up (va_up (va_up (df6) 10 (.int (iI (-1)))) 14 (.ref (a + 1))) 15 (.ref (a + 2))) 16 (.ref (a + 3))), zC 20 120 (.int 0), zC 20 24 (.int 0), zC 20 15 (.int 0)]) (Nat.le_of_ble_eq_true rfl)) ?_
  refine bind_of (RH_p (k := 0) (L := [(6, 19, va_up (va_up (va_up (va_up (df6) 10 (.int (iI (-1)))) 14 (.ref (a + 1))) 15 (.ref (a + 2))) 16 (.ref (a + 3))), zC 20 120 (.int 0), zC 20 24 (.int 0), zC 20 15 (.int 0), zC 20 96 (.int 0)]) (L2 := [(6, 19, va_up (va_up (va_up (va_up (va_up (df6) 10 (.int (iI (-1)))) 14 (.ref (a + 1))) 15 (.ref (a + 2))) 16 (.ref (a + 3))) 17 (.ref (a + 4))), zC 20 120 (.int 0), zC 20 24 (.int 0), zC 20 15 (.int 0), zC 20 96 (.int 0)]) rfl (Nat.le_of_ble_eq_true rfl) rfl (Nat.le_of_ble_eq_true rfl) rfl) ?_
  refine bind_of (RH_mkA (k := 240) (L := [(6, 19, va_up (va_up (va_up (va_up (va_up (df6) 10 (.int (iI (-1)))) 14 (.ref (a + 1))) 15 (.ref (a + 2))) 16 (.ref (a + 3))) 17 (.ref (a + 4))), zC 20 120 (.int 0), zC 20 24 (.int 0), zC 20 15 (.int 0), zC 20 96 (.int 0)]) (Nat.le_of_ble_eq_true rfl)) ?_
  refine bind_of (RH_p (k := 0) (L := [(6, 19, va_up (va_up (va_up (va_up (va_up (df6) 10 (.int (iI (-1)))) 14 (.ref (a + 1))) 15 (.ref (a + 2))) 16 (.ref (a + 3))) 17 (.ref (a + 4))), zC 20 120 (.int 0), zC 20 24 (.int 0), zC 20 15 (.int 0), zC 20 96 (.int 0), zC 20 240 (.int 0)]) (L2 := [(6, 19, va_up (va_up (va_up (va_up (va_up (va_up (df6) 10 (.int (iI (-1)))) 14 (.ref (a + 1))) 15 (.ref (a + 2))) 16 (.ref (a + 3))) 17 (.ref (a + 4))) 18 (.ref (a + 5))), zC 20 120 (.int 0), zC 20 24 (.int 0), zC 20 15 (.int 0), zC 20 96 (.int 0), zC 20 240 (.int 0)]) rfl (Nat.le_of_ble_eq_true rfl) rfl (Nat.le_of_ble_eq_true rfl) rfl) ?_
  rfl
theorem i6_ {b : Nat} (hb : b = a + L0.length) : fX6_init b (RH a P m (L0 ++ [(6, 19, df6)])) = some (RH a P (m + 120 + 24 + 15 + 96 + 240) (L0 ++ [(6, 19, va_up (va_up (va_up (va_up (va_up (va_up (df6) 10 (.int (iI (-1)))) 14 (.ref (b + 1))) 15 (.ref (b + 2))) 16 (.ref (b + 3))) 17 (.ref (b + 4))) 18 (.ref (b + 5))), zC 20 120 (.int 0), zC 20 24 (.int 0), zC 20 15 (.int 0), zC 20 96 (.int 0), zC 20 240 (.int 0)])) := by
  subst hb
  rw [RH_app, RH_app]
  exact j6_
theorem j7_ : fX7_init a (RH a P m [(7, 9, df7)]) = some (RH a P (m + 700 + 125 + 96 + 96 + 96 + 5) [(7, 9, va_up (va_up (va_up (va_up (va_up (va_up (df7) 0 (.ref (a + 1))) 1 (.ref (a + 2))) 2 (.ref (a + 3))) 3 (.ref (a + 4))) 4 (.ref (a + 5))) 5 (.ref (a + 6))), zC 20 700 (.int 0), zC 20 125 (.int 0), zC 20 96 (.int 0), zC 23 96 (.int 0), zC 20 96 (.int 0), zC 23 5 (.int 0)]) := by
  unfold fX7_init
  refine bind_of (RH_ck (k := 0) (L := [(7, 9, df7)]) rfl rfl) ?_
  refine bind_of (RH_mkA (k := 700) (L := [(7, 9, df7)]) (Nat.le_of_ble_eq_true rfl)) ?_
  refine bind_of (RH_p (k := 0) (L := [(7, 9, df7), zC 20 700 (.int 0)]) (L2 := [(7, 9, va_up (df7) 0 (.ref (a + 1))), zC 20 700 (.int 0)]) rfl (Nat.le_of_ble_eq_true rfl) rfl (Nat.le_of_ble_eq_true rfl) rfl) ?_
  refine bind_of (RH_mkA (k := 125) (L := [(7, 9, va_up (df7) 0 (.ref (a + 1))), zC 20 700 (.int 0)]) (Nat.le_of_ble_eq_true rfl)) ?_
  refine bind_of (RH_p (k := 0) (L := [(7, 9, va_up (df7) 0 (.ref (a + 1))), zC 20 700 (.int 0), zC 20 125 (.int 0)]) (L2 := [(7, 9, va_up (va_up (df7) 0 (.ref (a + 1))) 1 (.ref (a + 2))), zC 20 700 (.int 0), zC 20 125 (.int 0)]) rfl (Nat.le_of_ble_eq_true rfl) rfl (Nat.le_of_ble_eq_true rfl) rfl) ?_
  refine bind_of (RH_mkA (k := 96) (L := [(7, 9, va_up (va_up (df7) 0 (.ref (a + 1))) 1 (.ref (a + 2))), zC 20 700 (.int 0), zC 20 125 (.int 0)]) (Nat.le_of_ble_eq_true rfl)) ?_
  refine bind_of (RH_p (k := 0) (L := [(7, 9, va_up (va_up (df7) 0 (.ref (a + 1))) 1 (.ref (a + 2))), zC 20 700 (.int 0), zC 20 125 (.int 0), zC 20 96 (.int 0)]) (L2 := [(7, 9, va_up (va_up (va_up (df7) 0 (.ref (a + 1))) 1 (.ref (a + 2))) 2 (.ref (a + 3))), zC 20 700 (.int 0), zC 20 125 (.int 0), zC 20 96 (.int 0)]) rfl (Nat.le_of_ble_eq_true rfl) rfl (Nat.le_of_ble_eq_true rfl) rfl) ?_
  refine bind_of (RH_mkA (k := 96) (L := [(7, 9, va_up (va_up (va_up (df7) 0 (.ref (a + 1))) 1 (.ref (a + 2))) 2 (.ref (a + 3))), zC 20 700 (.int 0), zC 20 125 (.int 0), zC 20 96 (.int 0)]) (Nat.le_of_ble_eq_true rfl)) ?_
  refine bind_of (RH_p (k := 0) (L := [(7, 9, va_up (va_up (va_up (df7) 0 (.ref (a + 1))) 1 (.ref (a + 2))) 2 (.ref (a + 3))), zC 20 700 (.int 0), zC 20 125 (.int 0), zC 20 96 (.int 0), zC 23 96 (.int 0)]) (L2 := [(7, 9, va_up (va_up (va_up (va_up (df7) 0 (.ref (a + 1))) 1 (.ref (a + 2))) 2 (.ref (a + 3))) 3 (.ref (a + 4))), zC 20 700 (.int 0), zC 20 125 (.int 0), zC 20 96 (.int 0), zC 23 96 (.int 0)]) rfl (Nat.le_of_ble_eq_true rfl) rfl (Nat.le_of_ble_eq_true rfl) rfl) ?_
  refine bind_of (RH_mkA (k := 96) (L := [(7, 9, va_up (va_up (va_up (va_up (df7) 0 (.ref (a + 1))) 1 (.ref (a + 2))) 2 (.ref (a + 3))) 3 (.ref (a + 4))), zC 20 700 (.int 0), zC 20 125 (.int 0), zC 20 96 (.int 0), zC 23 96 (.int 0)]) (Nat.le_of_ble_eq_true rfl)) ?_
  refine bind_of (RH_p (k := 0) (L := [(7, 9, va_up (va_up (va_up (va_up (df7) 0 (.ref (a + 1))) 1 (.ref (a + 2))) 2 (.ref (a + 3))) 3 (.ref (a + 4))), zC 20 700 (.int 0), zC 20 125 (.int 0), zC 20 96 (.int 0), zC 23 96 (.int 0), zC 20 96 (.int 0)]) (L2 := [(7, 9, va_up (va_up (va_up (va_up (va_up (df7) 0 (.ref (a + 1))) 1 (.ref (a + 2))) 2 (.ref (a + 3))) 3 (.ref (a + 4))) 4 (.ref (a + 5))), zC 20 700 (.int 0), zC 20 125 (.int 0), zC 20 96 (.int 0), zC 23 96 (.int 0), zC 20 96 (.int 0)]) rfl (Nat.le_of_ble_eq_true rfl) rfl (Nat.le_of_ble_eq_true rfl) rfl) ?_
  refine bind_of (RH_mkA (k := 5) (L := [(7, 9, va_up (va_up (va_up (va_up (va_up (df7) 0 (.ref (a + 1))) 1 (.ref (a + 2))) 2 (.ref (a + 3))) 3 (.ref (a + 4))) 4 (.ref (a + 5))), zC 20 700 (.int 0), zC 20 125 (.int 0), zC 20 96 (.int 0), zC 23 96 (.int 0), zC 20 96 (.int 0)]) (Nat.le_of_ble_eq_true rfl)) ?_
  refine bind_of (RH_p (k := 0) (L := [(7, 9, va_up (va_up (va_up (va_up (va_up (df7) 0 (.ref (a + 1))) 1 (.ref (a + 2))) 2 (.ref (a + 3))) 3 (.ref (a + 4))) 4 (.ref (a + 5))), zC 20 700 (.int 0), zC 20 125 (.int 0), zC 20 96 (.int 0), zC 23 96 (.int 0), zC 20 96 (.int 0), zC 23 5 (.int 0)]) (L2 := [(7, 9, va_up (va_up (va_up (va_up (va_up (va_up (df7) 0 (.ref (a + 1))) 1 (.ref (a + 2))) 2 (.ref (a + 3))) 3 (.ref (a + 4))) 4 (.ref (a + 5))) 5 (.ref (a + 6))), zC 20 700 (.int 0), zC 20 125 (.int 0), zC 20 96 (.int 0), zC 23 96 (.int 0), zC 20 96 (.int 0), zC 23 5 (.int 0)]) rfl (Nat.le_of_ble_eq_true rfl) rfl (Nat.le_of_ble_eq_true rfl) rfl) ?_
  rfl
theorem i7_ {b : Nat} (hb : b = a + L0.length) : fX7_init b (RH a P m (L0 ++ [(7, 9, df7)])) = some (RH a P (m + 700 + 125 + 96 + 96 + 96 + 5) (L0 ++ [(7, 9, va_up (va_up (va_up (va_up (va_up (va_up (df7) 0 (.ref (b + 1))) 1 (.ref (b + 2))) 2 (.ref (b + 3))) 3 (.ref (b + 4))) 4 (.ref (b + 5))) 5 (.ref (b + 6))), zC 20 700 (.int 0), zC 20 125 (.int 0), zC 20 96 (.int 0), zC 23 96 (.int 0), zC 20 96 (.int 0), zC 23 5 (.int 0)])) := by
  subst hb
  rw [RH_app, RH_app]
  exact j7_
theorem h4_l45_0 : fX4_init_l45 a (iI 0, RH a P m [(4, 11, va_up (va_up (va_up (va_up (df4) 0 (.ref (a + 1))) 1 (.ref (a + 2))) 2 (.ref (a + 4))) 3 (.ref (a + 6))), zC 21 16000 (.long 0), (0, 2, va_up (df0) 0 (.ref (a + 2 + 1))), zC 21 5 (.long 0), (1, 10, va_up (va_up (df1) 0 (.ref (a + 4 + 1))) 6 (.int (iI (-1)))), zC 20 24 (.int 0), zC 26 4 (.null)]) = some (.inl (iI 1, RH a P (m + 5 + 1200 + 32 + 32) [(4, 11, va_up (va_up (va_up (va_up (df4) 0 (.ref (a + 1))) 1 (.ref (a + 2))) 2 (.ref (a + 4))) 3 (.ref (a + 6))), zC 21 16000 (.long 0), (0, 2, va_up (df0) 0 (.ref (a + 2 + 1))), zC 21 5 (.long 0), (1, 10, va_up (va_up (df1) 0 (.ref (a + 4 + 1))) 6 (.int (iI (-1)))), zC 20 24 (.int 0), (26, 4, va_up (fun _ => .null) 0 (.ref (a + 7))), (2, 5, va_up (va_up (va_up (df2) 0 (.ref (a + 7 + 1))) 1 (.ref (a + 7 + 2))) 2 (.ref (a + 7 + 3))), zC 21 1200 (.long 0), zC 20 32 (.int 0), zC 20 32 (.int 0)])) := by
  unfold fX4_init_l45
  refine (if_neg (show ¬ iI 4 ≤ iI 0 by decide)).trans ?_
  refine bind_of (RH_gR (k := 0) (v := a + 6) (L := [(4, 11, va_up (va_up (va_up (va_up (df4) 0 (.ref (a + 1))) 1 (.ref (a + 2))) 2 (.ref (a + 4))) 3 (.ref (a + 6))), zC 21 16000 (.long 0), (0, 2, va_up (df0) 0 (.ref (a + 2 + 1))), zC 21 5 (.long 0), (1, 10, va_up (va_up (df1) 0 (.ref (a + 4 + 1))) 6 (.int (iI (-1)))), zC 20 24 (.int 0), zC 26 4 (.null)]) rfl rfl (Nat.le_of_ble_eq_true rfl) rfl) ?_
  refine lt_of (RH_mk (L := [(4, 11, va_up (va_up (va_up (va_up (df4) 0 (.ref (a + 1))) 1 (.ref (a + 2))) 2 (.ref (a + 4))) 3 (.ref (a + 6))), zC 21 16000 (.long 0), (0, 2, va_up (df0) 0 (.ref (a + 2 + 1))), zC 21 5 (.long 0), (1, 10, va_up (va_up (df1) 0 (.ref (a + 4 + 1))) 6 (.int (iI (-1)))), zC 20 24 (.int 0), zC 26 4 (.null)]) (c := (2, 5, df2))) ?_
  refine bind_of (i2_ (L0 := [(4, 11, va_up (va_up (va_up (va_up (df4) 0 (.ref (a + 1))) 1 (.ref (a + 2))) 2 (.ref (a + 4))) 3 (.ref (a + 6))), zC 21 16000 (.long 0), (0, 2, va_up (df0) 0 (.ref (a + 2 + 1))), zC 21 5 (.long 0), (1, 10, va_up (va_up (df1) 0 (.ref (a + 4 + 1))) 6 (.int (iI (-1)))), zC 20 24 (.int 0), zC 26 4 (.null)]) (b := a + 7) rfl) ?_
  refine bind_of (RH_sR (i := 0) (k := 6) (q := 7) (L := [(4, 11, va_up (va_up (va_up (va_up (df4) 0 (.ref (a + 1))) 1 (.ref (a + 2))) 2 (.ref (a + 4))) 3 (.ref (a + 6))), zC 21 16000 (.long 0), (0, 2, va_up (df0) 0 (.ref (a + 2 + 1))), zC 21 5 (.long 0), (1, 10, va_up (va_up (df1) 0 (.ref (a + 4 + 1))) 6 (.int (iI (-1)))), zC 20 24 (.int 0), zC 26 4 (.null), (2, 5, va_up (va_up (va_up (df2) 0 (.ref (a + 7 + 1))) 1 (.ref (a + 7 + 2))) 2 (.ref (a + 7 + 3))), zC 21 1200 (.long 0), zC 20 32 (.int 0), zC 20 32 (.int 0)]) (L2 := [(4, 11, va_up (va_up (va_up (va_up (df4) 0 (.ref (a + 1))) 1 (.ref (a + 2))) 2 (.ref (a + 4))) 3 (.ref (a + 6))), zC 21 16000 (.long 0), (0, 2, va_up (df0) 0 (.ref (a + 2 + 1))), zC 21 5 (.long 0), (1, 10, va_up (va_up (df1) 0 (.ref (a + 4 + 1))) 6 (.int (iI (-1)))), zC 20 24 (.int 0), (26, 4, va_up (fun _ => .null) 0 (.ref (a + 7))), (2, 5, va_up (va_up (va_up (df2) 0 (.ref (a + 7 + 1))) 1 (.ref (a + 7 + 2))) 2 (.ref (a + 7 + 3))), zC 21 1200 (.long 0), zC 20 32 (.int 0), zC 20 32 (.int 0)]) rfl (Nat.le_of_ble_eq_true rfl) rfl rfl rfl (Nat.le_of_ble_eq_true rfl) (Nat.le_of_ble_eq_true rfl) rfl) ?_
  rfl
theorem h4_l45_1 : fX4_init_l45 a (iI 1, RH a P m [(4, 11, va_up (va_up (va_up (va_up (df4) 0 (.ref (a + 1))) 1 (.ref (a + 2))) 2 (.ref (a + 4))) 3 (.ref (a + 6))), zC 21 16000 (.long 0), (0, 2, va_up (df0) 0 (.ref (a + 2 + 1))), zC 21 5 (.long 0), (1, 10, va_up (va_up (df1) 0 (.ref (a + 4 + 1))) 6 (.int (iI (-1)))), zC 20 24 (.int 0), (26, 4, va_up (fun _ => .null) 0 (.ref (a + 7))), (2, 5, va_up (va_up (va_up (df2) 0 (.ref (a + 7 + 1))) 1 (.ref (a + 7 + 2))) 2 (.ref (a + 7 + 3))), zC 21 1200 (.long 0), zC 20 32 (.int 0), zC 20 32 (.int 0)]) = some (.inl (iI 2, RH a P (m + 5 + 1200 + 32 + 32) [(4, 11, va_up (va_up (va_up (va_up (df4) 0 (.ref (a + 1))) 1 (.ref (a + 2))) 2 (.ref (a + 4))) 3 (.ref (a + 6))), zC 21 16000 (.long 0), (0, 2, va_up (df0) 0 (.ref (a + 2 + 1))), zC 21 5 (.long 0), (1, 10, va_up (va_up (df1) 0 (.ref (a + 4 + 1))) 6 (.int (iI (-1)))), zC 20 24 (.int 0), (26, 4, va_up (va_up (fun _ => .null) 0 (.ref (a + 7))) 1 (.ref (a + 11))), (2, 5, va_up (va_up (va_up (df2) 0 (.ref (a + 7 + 1))) 1 (.ref (a + 7 + 2))) 2 (.ref (a + 7 + 3))), zC 21 1200 (.long 0), zC 20 32 (.int 0), zC 20 32 (.int 0), (2, 5, va_up (va_up (va_up (df2) 0 (.ref (a + 11 + 1))) 1 (.ref (a + 11 + 2))) 2 (.ref (a + 11 + 3))), zC 21 1200 (.long 0), zC 20 32 (.int 0), zC 20 32 (.int 0)])) := by
  unfold fX4_init_l45
  refine (if_neg (show ¬ iI 4 ≤ iI 1 by decide)).trans ?_
  refine bind_of (RH_gR (k := 0) (v := a + 6) (L := [(4, 11, va_up (va_up (va_up (va_up (df4) 0 (.ref (a + 1))) 1 (.ref (a + 2))) 2 (.ref (a + 4))) 3 (.ref (a + 6))), zC 21 16000 (.long 0), (0, 2, va_up (df0) 0 (.ref (a + 2 + 1))), zC 21 5 (.long 0), (1, 10, va_up (va_up (df1) 0 (.ref (a + 4 + 1))) 6 (.int (iI (-1)))), zC 20 24 (.int 0), (26, 4, va_up (fun _ => .null) 0 (.ref (a + 7))), (2, 5, va_up (va_up (va_up (df2) 0 (.ref (a + 7 + 1))) 1 (.ref (a + 7 + 2))) 2 (.ref (a + 7 + 3))), zC 21 1200 (.long 0), zC 20 32 (.int 0), zC 20 32 (.int 0)]) rfl rfl (Nat.le_of_ble_eq_true rfl) rfl) ?_
  refine lt_of (RH_mk (L := [(4, 11, va_up (va_up (va_up (va_up (df4) 0 (.ref (a + 1))) 1 (.ref (a + 2))) 2 (.ref (a + 4))) 3 (.ref (a + 6))), zC 21 16000 (.long 0), (0, 2, va_up (df0) 0 (.ref (a + 2 + 1))), zC 21 5 (.long 0), (1, 10, va_up (va_up (df1) 0 (.ref (a + 4 + 1))) 6 (.int (iI (-1)))), zC 20 24 (.int 0), (26, 4, va_up (fun _ => .null) 0 (.ref (a + 7))), (2, 5, va_up (va_up (va_up (df2) 0 (.ref (a + 7 + 1))) 1 (.ref (a + 7 + 2))) 2 (.ref (a + 7 + 3))), zC 21 1200 (.long 0), zC 20 32 (.int 0), zC 20 32 (.int 0)]) (c := (2, 5, df2))) ?_
  refine bind_of (i2_ (L0 := [(4, 11, va_up (va_up (va_up (va_up (df4) 0 (.ref (a + 1))) 1 (.ref (a + 2))) 2 (.ref (a + 4))) 3 (.ref (a + 6))), zC 21 16000 (.long 0), (0, 2, va_up (df0) 0 (.ref (a + 2 + 1))), zC 21 5 (.long 0), (1, 10, va_up (va_up (df1) 0 (.ref (a + 4 + 1))) 6 (.int (iI (-1)))), zC 20 24 (.int 0), (26, 4, va_up (fun _ => .null) 0 (.ref (a + 7))), (2, 5, va_up (va_up (va_up (df2) 0 (.ref (a + 7 + 1))) 1 (.ref (a + 7 + 2))) 2 (.ref (a + 7 + 3))), zC 21 1200 (.long 0), zC 20 32 (.int 0), zC 20 32 (.int 0)]) (b := a + 11) rfl) ?_
  refine bind_of (RH_sR (i := 1) (k := 6) (q := 11) (L := [(4, 11, va_up (va_up (va_up (va_up (df4) 0 (.ref (a + 1))) 1 (.ref (a + 2))) 2 (.ref (a + 4))) 3 (.ref (a + 6))), zC 21 16000 (.long 0), (0, 2, va_up (df0) 0 (.ref (a + 2 + 1))), zC 21 5 (.long 0), (1, 10, va_up (va_up (df1) 0 (.ref (a + 4 + 1))) 6 (.int (iI (-1)))), zC 20 24 (.int 0), (26, 4, va_up (fun _ => .null) 0 (.ref (a + 7))), (2, 5, va_up (va_up (va_up (df2) 0 (.ref (a + 7 + 1))) 1 (.ref (a + 7 + 2))) 2 (.ref (a + 7 + 3))), zC 21 1200 (.long 0), zC 20 32 (.int 0), zC 20 32 (.int 0), (2, 5, va_up (va_up (va_up (df2) 0 (.ref (a + 11 + 1))) 1 (.ref (a + 11 + 2))) 2 (.ref (a + 11 + 3))), zC 21 1200 (.long 0), zC 20 32 (.int 0), zC 20 32 (.int 0)]) (L2 := [(4, 11, va_up (va_up (va_up (va_up (df4) 0 (.ref (a + 1))) 1 (.ref (a + 2))) 2 (.ref (a + 4))) 3 (.ref (a + 6))), zC 21 16000 (.long 0), (0, 2, va_up (df0) 0 (.ref (a + 2 + 1))), zC 21 5 (.long 0), (1, 10, va_up (va_up (df1) 0 (.ref (a + 4 + 1))) 6 (.int (iI (-1)))), zC 20 24 (.int 0), (26, 4, va_up (va_up (fun _ => .null) 0 (.ref (a + 7))) 1 (.ref (a + 11))), (2, 5, va_up (va_up (va_up (df2) 0 (.ref (a + 7 + 1))) 1 (.ref (a + 7 + 2))) 2 (.ref (a + 7 + 3))), zC 21 1200 (.long 0), zC 20 32 (.int 0), zC 20 32 (.int 0), (2, 5, va_up (va_up (va_up (df2) 0 (.ref (a + 11 + 1))) 1 (.ref (a + 11 + 2))) 2 (.ref (a + 11 + 3))), zC 21 1200 (.long 0), zC 20 32 (.int 0), zC 20 32 (.int 0)]) rfl (Nat.le_of_ble_eq_true rfl) rfl rfl rfl (Nat.le_of_ble_eq_true rfl) (Nat.le_of_ble_eq_true rfl) rfl) ?_
  rfl
theorem h4_l45_2 : fX4_init_l45 a (iI 2, RH a P m [(4, 11, va_up (va_up (va_up (va_up (df4) 0 (.ref (a + 1))) 1 (.ref (a + 2))) 2 (.ref (a + 4))) 3 (.ref (a + 6))), zC 21 16000 (.long 0), (0, 2, va_up (df0) 0 (.ref (a + 2 + 1))), zC 21 5 (.long 0), (1, 10, va_up (va_up (df1) 0 (.ref (a + 4 + 1))) 6 (.int (iI (-1)))), zC 20 24 (.int 0), (26, 4, va_up (va_up (fun _ => .null) 0 (.ref (a + 7))) 1 (.ref (a + 11))), (2, 5, va_up (va_up (va_up (df2) 0 (.ref (a + 7 + 1))) 1 (.ref (a + 7 + 2))) 2 (.ref (a + 7 + 3))), zC 21 1200 (.long 0), zC 20 32 (.int 0), zC 20 32 (.int 0), (2, 5, va_up (va_up (va_up (df2) 0 (.ref (a + 11 + 1))) 1 (.ref (a + 11 + 2))) 2 (.ref (a + 11 + 3))), zC 21 1200 (.long 0), zC 20 32 (.int 0), zC 20 32 (.int 0)]) = some (.inl (iI 3, RH a P (m + 5 + 1200 + 32 + 32) [(4, 11, va_up (va_up (va_up (va_up (df4) 0 (.ref (a + 1))) 1 (.ref (a + 2))) 2 (.ref (a + 4))) 3 (.ref (a + 6))), zC 21 16000 (.long 0), (0, 2, va_up (df0) 0 (.ref (a + 2 + 1))), zC 21 5 (.long 0), (1, 10, va_up (va_up (df1) 0 (.ref (a + 4 + 1))) 6 (.int (iI (-1)))), zC 20 24 (.int 0), (26, 4, va_up (va_up (va_up (fun _ => .null) 0 (.ref (a + 7))) 1 (.ref (a + 11))) 2 (.ref (a + 15))), (2, 5, va_up (va_up (va_up (df2) 0 (.ref (a + 7 + 1))) 1 (.ref (a + 7 + 2))) 2 (.ref (a + 7 + 3))), zC 21 1200 (.long 0), zC 20 32 (.int 0), zC 20 32 (.int 0), (2, 5, va_up (va_up (va_up (df2) 0 (.ref (a + 11 + 1))) 1 (.ref (a + 11 + 2))) 2 (.ref (a + 11 + 3))), zC 21 1200 (.long 0), zC 20 32 (.int 0), zC 20 32 (.int 0), (2, 5, va_up (va_up (va_up (df2) 0 (.ref (a + 15 + 1))) 1 (.ref (a + 15 + 2))) 2 (.ref (a + 15 + 3))), zC 21 1200 (.long 0), zC 20 32 (.int 0), zC 20 32 (.int 0)])) := by
  unfold fX4_init_l45
  refine (if_neg (show ¬ iI 4 ≤ iI 2 by decide)).trans ?_
  refine bind_of (RH_gR (k := 0) (v := a + 6) (L := [(4, 11, va_up (va_up (va_up (va_up (df4) 0 (.ref (a + 1))) 1 (.ref (a + 2))) 2 (.ref (a + 4))) 3 (.ref (a + 6))), zC 21 16000 (.long 0), (0, 2, va_up (df0) 0 (.ref (a + 2 + 1))), zC 21 5 (.long 0), (1, 10, va_up (va_up (df1) 0 (.ref (a + 4 + 1))) 6 (.int (iI (-1)))), zC 20 24 (.int 0), (26, 4, va_up (va_up (fun _ => .null) 0 (.ref (a + 7))) 1 (.ref (a + 11))), (2, 5, va_up (va_up (va_up (df2) 0 (.ref (a + 7 + 1))) 1 (.ref (a + 7 + 2))) 2 (.ref (a + 7 + 3))), zC 21 1200 (.long 0), zC 20 32 (.int 0), zC 20 32 (.int 0), (2, 5, va_up (va_up (va_up (df2) 0 (.ref (a + 11 + 1))) 1 (.ref (a + 11 + 2))) 2 (.ref (a + 11 + 3))), zC 21 1200 (.long 0), zC 20 32 (.int 0), zC 20 32 (.int 0)]) rfl rfl (Nat.le_of_ble_eq_true rfl) rfl) ?_
  refine lt_of (RH_mk (L := [(4, 11, va_up (va_up (va_up (va_up (df4) 0 (.ref (a + 1))) 1 (.ref (a + 2))) 2 (.ref (a + 4))) 3 (.ref (a + 6))), zC 21 16000 (.long 0), (0, 2, va_up (df0) 0 (.ref (a + 2 + 1))), zC 21 5 (.long 0), (1, 10, va_up (va_up (df1) 0 (.ref (a + 4 + 1))) 6 (.int (iI (-1)))), zC 20 24 (.int 0), (26, 4, va_up (va_up (fun _ => .null) 0 (.ref (a + 7))) 1 (.ref (a + 11))), (2, 5, va_up (va_up (va_up (df2) 0 (.ref (a + 7 + 1))) 1 (.ref (a + 7 + 2))) 2 (.ref (a + 7 + 3))), zC 21 1200 (.long 0), zC 20 32 (.int 0), zC 20 32 (.int 0), (2, 5, va_up (va_up (va_up (df2) 0 (.ref (a + 11 + 1))) 1 (.ref (a + 11 + 2))) 2 (.ref (a + 11 + 3))), zC 21 1200 (.long 0), zC 20 32 (.int 0), zC 20 32 (.int 0)]) (c := (2, 5, df2))) ?_
  refine bind_of (i2_ (L0 := [(4, 11, va_up (va_up (va_up (va_up (df4) 0 (.ref (a + 1))) 1 (.ref (a + 2))) 2 (.ref (a + 4))) 3 (.ref (a + 6))), zC 21 16000 (.long 0), (0, 2, va_up (df0) 0 (.ref (a + 2 + 1))), zC 21 5 (.long 0), (1, 10, va_up (va_up (df1) 0 (.ref (a + 4 + 1))) 6 (.int (iI (-1)))), zC 20 24 (.int 0), (26, 4, va_up (va_up (fun _ => .null) 0 (.ref (a + 7))) 1 (.ref (a + 11))), (2, 5, va_up (va_up (va_up (df2) 0 (.ref (a + 7 + 1))) 1 (.ref (a + 7 + 2))) 2 (.ref (a + 7 + 3))), zC 21 1200 (.long 0), zC 20 32 (.int 0), zC 20 32 (.int 0), (2, 5, va_up (va_up (va_up (df2) 0 (.ref (a + 11 + 1))) 1 (.ref (a + 11 + 2))) 2 (.ref (a + 11 + 3))), zC 21 1200 (.long 0), zC 20 32 (.int 0), zC 20 32 (.int 0)]) (b := a + 15) rfl) ?_
  refine bind_of (RH_sR (i := 2) (k := 6) (q := 15) (L := [(4, 11, va_up (va_up (va_up (va_up (df4) 0 (.ref (a + 1))) 1 (.ref (a + 2))) 2 (.ref (a + 4))) 3 (.ref (a + 6))), zC 21 16000 (.long 0), (0, 2, va_up (df0) 0 (.ref (a + 2 + 1))), zC 21 5 (.long 0), (1, 10, va_up (va_up (df1) 0 (.ref (a + 4 + 1))) 6 (.int (iI (-1)))), zC 20 24 (.int 0), (26, 4, va_up (va_up (fun _ => .null) 0 (.ref (a + 7))) 1 (.ref (a + 11))), (2, 5, va_up (va_up (va_up (df2) 0 (.ref (a + 7 + 1))) 1 (.ref (a + 7 + 2))) 2 (.ref (a + 7 + 3))), zC 21 1200 (.long 0), zC 20 32 (.int 0), zC 20 32 (.int 0), (2, 5, va_up (va_up (va_up (df2) 0 (.ref (a + 11 + 1))) 1 (.ref (a + 11 + 2))) 2 (.ref (a + 11 + 3))), zC 21 1200 (.long 0), zC 20 32 (.int 0), zC 20 32 (.int 0), (2, 5, va_up (va_up (va_up (df2) 0 (.ref (a + 15 + 1))) 1 (.ref (a + 15 + 2))) 2 (.ref (a + 15 + 3))), zC 21 1200 (.long 0), zC 20 32 (.int 0), zC 20 32 (.int 0)]) (L2 := [(4, 11, va_up (va_up (va_up (va_up (df4) 0 (.ref (a + 1))) 1 (.ref (a + 2))) 2 (.ref (a + 4))) 3 (.ref (a + 6))), zC 21 16000 (.long 0), (0, 2, va_up (df0) 0 (.ref (a + 2 + 1))), zC 21 5 (.long 0), (1, 10, va_up (va_up (df1) 0 (.ref (a + 4 + 1))) 6 (.int (iI (-1)))), zC 20 24 (.int 0), (26, 4, va_up (va_up (va_up (fun _ => .null) 0 (.ref (a + 7))) 1 (.ref (a + 11))) 2 (.ref (a + 15))), (2, 5, va_up (va_up (va_up (df2) 0 (.ref (a + 7 + 1))) 1 (.ref (a + 7 + 2))) 2 (.ref (a + 7 + 3))), zC 21 1200 (.long 0), zC 20 32 (.int 0), zC 20 32 (.int 0), (2, 5, va_up (va_up (va_up (df2) 0 (.ref (a + 11 + 1))) 1 (.ref (a + 11 + 2))) 2 (.ref (a + 11 + 3))), zC 21 1200 (.long 0), zC 20 32 (.int 0), zC 20 32 (.int 0), (2, 5, va_up (va_up (va_up (df2) 0 (.ref (a + 15 + 1))) 1 (.ref (a + 15 + 2))) 2 (.ref (a + 15 + 3))), zC 21 1200 (.long 0), zC 20 32 (.int 0), zC 20 32 (.int 0)]) rfl (Nat.le_of_ble_eq_true rfl) rfl rfl rfl (Nat.le_of_ble_eq_true rfl) (Nat.le_of_ble_eq_true rfl) rfl) ?_
  rfl
theorem h4_l45_3 : fX4_init_l45 a (iI 3, RH a P m [(4, 11, va_up (va_up (va_up (va_up (df4) 0 (.ref (a + 1))) 1 (.ref (a + 2))) 2 (.ref (a + 4))) 3 (.ref (a + 6))), zC 21 16000 (.long 0), (0, 2, va_up (df0) 0 (.ref (a + 2 + 1))), zC 21 5 (.long 0), (1, 10, va_up (va_up (df1) 0 (.ref (a + 4 + 1))) 6 (.int (iI (-1)))), zC 20 24 (.int 0), (26, 4, va_up (va_up (va_up (fun _ => .null) 0 (.ref (a + 7))) 1 (.ref (a + 11))) 2 (.ref (a + 15))), (2, 5, va_up (va_up (va_up (df2) 0 (.ref (a + 7 + 1))) 1 (.ref (a + 7 + 2))) 2 (.ref (a + 7 + 3))), zC 21 1200 (.long 0), zC 20 32 (.int 0), zC 20 32 (.int 0), (2, 5, va_up (va_up (va_up (df2) 0 (.ref (a + 11 + 1))) 1 (.ref (a + 11 + 2))) 2 (.ref (a + 11 + 3))), zC 21 1200 (.long 0), zC 20 32 (.int 0), zC 20 32 (.int 0), (2, 5, va_up (va_up (va_up (df2) 0 (.ref (a + 15 + 1))) 1 (.ref (a + 15 + 2))) 2 (.ref (a + 15 + 3))), zC 21 1200 (.long 0), zC 20 32 (.int 0), zC 20 32 (.int 0)]) = some (.inl (iI 4, RH a P (m + 5 + 1200 + 32 + 32) [(4, 11, va_up (va_up (va_up (va_up (df4) 0 (.ref (a + 1))) 1 (.ref (a + 2))) 2 (.ref (a + 4))) 3 (.ref (a + 6))), zC 21 16000 (.long 0), (0, 2, va_up (df0) 0 (.ref (a + 2 + 1))), zC 21 5 (.long 0), (1, 10, va_up (va_up (df1) 0 (.ref (a + 4 + 1))) 6 (.int (iI (-1)))), zC 20 24 (.int 0), (26, 4, va_up (va_up (va_up (va_up (fun _ => .null) 0 (.ref (a + 7))) 1 (.ref (a + 11))) 2 (.ref (a + 15))) 3 (.ref (a + 19))), (2, 5, va_up (va_up (va_up (df2) 0 (.ref (a + 7 + 1))) 1 (.ref (a + 7 + 2))) 2 (.ref (a + 7 + 3))), zC 21 1200 (.long 0), zC 20 32 (.int 0), zC 20 32 (.int 0), (2, 5, va_up (va_up (va_up (df2) 0 (.ref (a + 11 + 1))) 1 (.ref (a + 11 + 2))) 2 (.ref (a + 11 + 3))), zC 21 1200 (.long 0), zC 20 32 (.int 0), zC 20 32 (.int 0), (2, 5, va_up (va_up (va_up (df2) 0 (.ref (a + 15 + 1))) 1 (.ref (a + 15 + 2))) 2 (.ref (a + 15 + 3))), zC 21 1200 (.long 0), zC 20 32 (.int 0), zC 20 32 (.int 0), (2, 5, va_up (va_up (va_up (df2) 0 (.ref (a + 19 + 1))) 1 (.ref (a + 19 + 2))) 2 (.ref (a + 19 + 3))), zC 21 1200 (.long 0), zC 20 32 (.int 0), zC 20 32 (.int 0)])) := by
  unfold fX4_init_l45
  refine (if_neg (show ¬ iI 4 ≤ iI 3 by decide)).trans ?_
  refine bind_of (RH_gR (k := 0) (v := a + 6) (L := [(4, 11, va_up (va_up (va_up (va_up (df4) 0 (.ref (a + 1))) 1 (.ref (a + 2))) 2 (.ref (a + 4))) 3 (.ref (a + 6))), zC 21 16000 (.long 0), (0, 2, va_up (df0) 0 (.ref (a + 2 + 1))), zC 21 5 (.long 0), (1, 10, va_up (va_up (df1) 0 (.ref (a + 4 + 1))) 6 (.int (iI (-1)))), zC 20 24 (.int 0), (26, 4, va_up (va_up (va_up (fun _ => .null) 0 (.ref (a + 7))) 1 (.ref (a + 11))) 2 (.ref (a + 15))), (2, 5, va_up (va_up (va_up (df2) 0 (.ref (a + 7 + 1))) 1 (.ref (a + 7 + 2))) 2 (.ref (a + 7 + 3))), zC 21 1200 (.long 0), zC 20 32 (.int 0), zC 20 32 (.int 0), (2, 5, va_up (va_up (va_up (df2) 0 (.ref (a + 11 + 1))) 1 (.ref (a + 11 + 2))) 2 (.ref (a + 11 + 3))), zC 21 1200 (.long 0), zC 20 32 (.int 0), zC 20 32 (.int 0), (2, 5, va_up (va_up (va_up (df2) 0 (.ref (a + 15 + 1))) 1 (.ref (a + 15 + 2))) 2 (.ref (a + 15 + 3))), zC 21 1200 (.long 0), zC 20 32 (.int 0), zC 20 32 (.int 0)]) rfl rfl (Nat.le_of_ble_eq_true rfl) rfl) ?_
  refine lt_of (RH_mk (L := [(4, 11, va_up (va_up (va_up (va_up (df4) 0 (.ref (a + 1))) 1 (.ref (a + 2))) 2 (.ref (a + 4))) 3 (.ref (a + 6))), zC 21 16000 (.long 0), (0, 2, va_up (df0) 0 (.ref (a + 2 + 1))), zC 21 5 (.long 0), (1, 10, va_up (va_up (df1) 0 (.ref (a + 4 + 1))) 6 (.int (iI (-1)))), zC 20 24 (.int 0), (26, 4, va_up (va_up (va_up (fun _ => .null) 0 (.ref (a + 7))) 1 (.ref (a + 11))) 2 (.ref (a + 15))), (2, 5, va_up (va_up (va_up (df2) 0 (.ref (a + 7 + 1))) 1 (.ref (a + 7 + 2))) 2 (.ref (a + 7 + 3))), zC 21 1200 (.long 0), zC 20 32 (.int 0), zC 20 32 (.int 0), (2, 5, va_up (va_up (va_up (df2) 0 (.ref (a + 11 + 1))) 1 (.ref (a + 11 + 2))) 2 (.ref (a + 11 + 3))), zC 21 1200 (.long 0), zC 20 32 (.int 0), zC 20 32 (.int 0), (2, 5, va_up (va_up (va_up (df2) 0 (.ref (a + 15 + 1))) 1 (.ref (a + 15 + 2))) 2 (.ref (a + 15 + 3))), zC 21 1200 (.long 0), zC 20 32 (.int 0), zC 20 32 (.int 0)]) (c := (2, 5, df2))) ?_
  refine bind_of (i2_ (L0 := [(4, 11, va_up (va_up (va_up (va_up (df4) 0 (.ref (a + 1))) 1 (.ref (a + 2))) 2 (.ref (a + 4))) 3 (.ref (a + 6))), zC 21 16000 (.long 0), (0, 2, va_up (df0) 0 (.ref (a + 2 + 1))), zC 21 5 (.long 0), (1, 10, va_up (va_up (df1) 0 (.ref (a + 4 + 1))) 6 (.int (iI (-1)))), zC 20 24 (.int 0), (26, 4, va_up (va_up (va_up (fun _ => .null) 0 (.ref (a + 7))) 1 (.ref (a + 11))) 2 (.ref (a + 15))), (2, 5, va_up (va_up (va_up (df2) 0 (.ref (a + 7 + 1))) 1 (.ref (a + 7 + 2))) 2 (.ref (a + 7 + 3))), zC 21 1200 (.long 0), zC 20 32 (.int 0), zC 20 32 (.int 0), (2, 5, va_up (va_up (va_up (df2) 0 (.ref (a + 11 + 1))) 1 (.ref (a + 11 + 2))) 2 (.ref (a + 11 + 3))), zC 21 1200 (.long 0), zC 20 32 (.int 0), zC 20 32 (.int 0), (2, 5, va_up (va_up (va_up (df2) 0 (.ref (a + 15 + 1))) 1 (.ref (a + 15 + 2))) 2 (.ref (a + 15 + 3))), zC 21 1200 (.long 0), zC 20 32 (.int 0), zC 20 32 (.int 0)]) (b := a + 19) rfl) ?_
  refine bind_of (RH_sR (i := 3) (k := 6) (q := 19) (L := [(4, 11, va_up (va_up (va_up (va_up (df4) 0 (.ref (a + 1))) 1 (.ref (a + 2))) 2 (.ref (a + 4))) 3 (.ref (a + 6))), zC 21 16000 (.long 0), (0, 2, va_up (df0) 0 (.ref (a + 2 + 1))), zC 21 5 (.long 0), (1, 10, va_up (va_up (df1) 0 (.ref (a + 4 + 1))) 6 (.int (iI (-1)))), zC 20 24 (.int 0), (26, 4, va_up (va_up (va_up (fun _ => .null) 0 (.ref (a + 7))) 1 (.ref (a + 11))) 2 (.ref (a + 15))), (2, 5, va_up (va_up (va_up (df2) 0 (.ref (a + 7 + 1))) 1 (.ref (a + 7 + 2))) 2 (.ref (a + 7 + 3))), zC 21 1200 (.long 0), zC 20 32 (.int 0), zC 20 32 (.int 0), (2, 5, va_up (va_up (va_up (df2) 0 (.ref (a + 11 + 1))) 1 (.ref (a + 11 + 2))) 2 (.ref (a + 11 + 3))), zC 21 1200 (.long 0), zC 20 32 (.int 0), zC 20 32 (.int 0), (2, 5, va_up (va_up (va_up (df2) 0 (.ref (a + 15 + 1))) 1 (.ref (a + 15 + 2))) 2 (.ref (a + 15 + 3))), zC 21 1200 (.long 0), zC 20 32 (.int 0), zC 20 32 (.int 0), (2, 5, va_up (va_up (va_up (df2) 0 (.ref (a + 19 + 1))) 1 (.ref (a + 19 + 2))) 2 (.ref (a + 19 + 3))), zC 21 1200 (.long 0), zC 20 32 (.int 0), zC 20 32 (.int 0)]) (L2 := [(4, 11, va_up (va_up (va_up (va_up (df4) 0 (.ref (a + 1))) 1 (.ref (a + 2))) 2 (.ref (a + 4))) 3 (.ref (a + 6))), zC 21 16000 (.long 0), (0, 2, va_up (df0) 0 (.ref (a + 2 + 1))), zC 21 5 (.long 0), (1, 10, va_up (va_up (df1) 0 (.ref (a + 4 + 1))) 6 (.int (iI (-1)))), zC 20 24 (.int 0), (26, 4, va_up (va_up (va_up (va_up (fun _ => .null) 0 (.ref (a + 7))) 1 (.ref (a + 11))) 2 (.ref (a + 15))) 3 (.ref (a + 19))), (2, 5, va_up (va_up (va_up (df2) 0 (.ref (a + 7 + 1))) 1 (.ref (a + 7 + 2))) 2 (.ref (a + 7 + 3))), zC 21 1200 (.long 0), zC 20 32 (.int 0), zC 20 32 (.int 0), (2, 5, va_up (va_up (va_up (df2) 0 (.ref (a + 11 + 1))) 1 (.ref (a + 11 + 2))) 2 (.ref (a + 11 + 3))), zC 21 1200 (.long 0), zC 20 32 (.int 0), zC 20 32 (.int 0), (2, 5, va_up (va_up (va_up (df2) 0 (.ref (a + 15 + 1))) 1 (.ref (a + 15 + 2))) 2 (.ref (a + 15 + 3))), zC 21 1200 (.long 0), zC 20 32 (.int 0), zC 20 32 (.int 0), (2, 5, va_up (va_up (va_up (df2) 0 (.ref (a + 19 + 1))) 1 (.ref (a + 19 + 2))) 2 (.ref (a + 19 + 3))), zC 21 1200 (.long 0), zC 20 32 (.int 0), zC 20 32 (.int 0)]) rfl (Nat.le_of_ble_eq_true rfl) rfl rfl rfl (Nat.le_of_ble_eq_true rfl) (Nat.le_of_ble_eq_true rfl) rfl) ?_
  rfl
theorem h4_l45_x : fX4_init_l45 a (iI 4, RH a P m [(4, 11, va_up (va_up (va_up (va_up (df4) 0 (.ref (a + 1))) 1 (.ref (a + 2))) 2 (.ref (a + 4))) 3 (.ref (a + 6))), zC 21 16000 (.long 0), (0, 2, va_up (df0) 0 (.ref (a + 2 + 1))), zC 21 5 (.long 0), (1, 10, va_up (va_up (df1) 0 (.ref (a + 4 + 1))) 6 (.int (iI (-1)))), zC 20 24 (.int 0), (26, 4, va_up (va_up (va_up (va_up (fun _ => .null) 0 (.ref (a + 7))) 1 (.ref (a + 11))) 2 (.ref (a + 15))) 3 (.ref (a + 19))), (2, 5, va_up (va_up (va_up (df2) 0 (.ref (a + 7 + 1))) 1 (.ref (a + 7 + 2))) 2 (.ref (a + 7 + 3))), zC 21 1200 (.long 0), zC 20 32 (.int 0), zC 20 32 (.int 0), (2, 5, va_up (va_up (va_up (df2) 0 (.ref (a + 11 + 1))) 1 (.ref (a + 11 + 2))) 2 (.ref (a + 11 + 3))), zC 21 1200 (.long 0), zC 20 32 (.int 0), zC 20 32 (.int 0), (2, 5, va_up (va_up (va_up (df2) 0 (.ref (a + 15 + 1))) 1 (.ref (a + 15 + 2))) 2 (.ref (a + 15 + 3))), zC 21 1200 (.long 0), zC 20 32 (.int 0), zC 20 32 (.int 0), (2, 5, va_up (va_up (va_up (df2) 0 (.ref (a + 19 + 1))) 1 (.ref (a + 19 + 2))) 2 (.ref (a + 19 + 3))), zC 21 1200 (.long 0), zC 20 32 (.int 0), zC 20 32 (.int 0)]) = some (.inr (RH a P m [(4, 11, va_up (va_up (va_up (va_up (df4) 0 (.ref (a + 1))) 1 (.ref (a + 2))) 2 (.ref (a + 4))) 3 (.ref (a + 6))), zC 21 16000 (.long 0), (0, 2, va_up (df0) 0 (.ref (a + 2 + 1))), zC 21 5 (.long 0), (1, 10, va_up (va_up (df1) 0 (.ref (a + 4 + 1))) 6 (.int (iI (-1)))), zC 20 24 (.int 0), (26, 4, va_up (va_up (va_up (va_up (fun _ => .null) 0 (.ref (a + 7))) 1 (.ref (a + 11))) 2 (.ref (a + 15))) 3 (.ref (a + 19))), (2, 5, va_up (va_up (va_up (df2) 0 (.ref (a + 7 + 1))) 1 (.ref (a + 7 + 2))) 2 (.ref (a + 7 + 3))), zC 21 1200 (.long 0), zC 20 32 (.int 0), zC 20 32 (.int 0), (2, 5, va_up (va_up (va_up (df2) 0 (.ref (a + 11 + 1))) 1 (.ref (a + 11 + 2))) 2 (.ref (a + 11 + 3))), zC 21 1200 (.long 0), zC 20 32 (.int 0), zC 20 32 (.int 0), (2, 5, va_up (va_up (va_up (df2) 0 (.ref (a + 15 + 1))) 1 (.ref (a + 15 + 2))) 2 (.ref (a + 15 + 3))), zC 21 1200 (.long 0), zC 20 32 (.int 0), zC 20 32 (.int 0), (2, 5, va_up (va_up (va_up (df2) 0 (.ref (a + 19 + 1))) 1 (.ref (a + 19 + 2))) 2 (.ref (a + 19 + 3))), zC 21 1200 (.long 0), zC 20 32 (.int 0), zC 20 32 (.int 0)])) := by
  unfold fX4_init_l45
  exact if_pos (show iI 4 ≤ iI 4 by decide)
theorem j4_ : fX4_init a (RH a P m [(4, 11, df4)]) = some (RH a P (m + 21121) [(4, 11, va_up (va_up (va_up (va_up (df4) 0 (.ref (a + 1))) 1 (.ref (a + 2))) 2 (.ref (a + 4))) 3 (.ref (a + 6))), zC 21 16000 (.long 0), (0, 2, va_up (df0) 0 (.ref (a + 2 + 1))), zC 21 5 (.long 0), (1, 10, va_up (va_up (df1) 0 (.ref (a + 4 + 1))) 6 (.int (iI (-1)))), zC 20 24 (.int 0), (26, 4, va_up (va_up (va_up (va_up (fun _ => .null) 0 (.ref (a + 7))) 1 (.ref (a + 11))) 2 (.ref (a + 15))) 3 (.ref (a + 19))), (2, 5, va_up (va_up (va_up (df2) 0 (.ref (a + 7 + 1))) 1 (.ref (a + 7 + 2))) 2 (.ref (a + 7 + 3))), zC 21 1200 (.long 0), zC 20 32 (.int 0), zC 20 32 (.int 0), (2, 5, va_up (va_up (va_up (df2) 0 (.ref (a + 11 + 1))) 1 (.ref (a + 11 + 2))) 2 (.ref (a + 11 + 3))), zC 21 1200 (.long 0), zC 20 32 (.int 0), zC 20 32 (.int 0), (2, 5, va_up (va_up (va_up (df2) 0 (.ref (a + 15 + 1))) 1 (.ref (a + 15 + 2))) 2 (.ref (a + 15 + 3))), zC 21 1200 (.long 0), zC 20 32 (.int 0), zC 20 32 (.int 0), (2, 5, va_up (va_up (va_up (df2) 0 (.ref (a + 19 + 1))) 1 (.ref (a + 19 + 2))) 2 (.ref (a + 19 + 3))), zC 21 1200 (.long 0), zC 20 32 (.int 0), zC 20 32 (.int 0)]) := by
  unfold fX4_init
  refine bind_of (RH_ck (k := 0) (L := [(4, 11, df4)]) rfl rfl) ?_
  refine bind_of (RH_mkA (k := 16000) (L := [(4, 11, df4)]) (Nat.le_of_ble_eq_true rfl)) ?_
  refine bind_of (RH_p (k := 0) (L := [(4, 11, df4), zC 21 16000 (.long 0)]) (L2 := [(4, 11, va_up (df4) 0 (.ref (a + 1))), zC 21 16000 (.long 0)]) rfl (Nat.le_of_ble_eq_true rfl) rfl (Nat.le_of_ble_eq_true rfl) rfl) ?_
  refine lt_of (RH_mk (L := [(4, 11, va_up (df4) 0 (.ref (a + 1))), zC 21 16000 (.long 0)]) (c := (0, 2, df0))) ?_
  refine bind_of (i0_ (L0 := [(4, 11, va_up (df4) 0 (.ref (a + 1))), zC 21 16000 (.long 0)]) (b := a + 2) rfl) ?_
  refine bind_of (RH_p (k := 0) (L := [(4, 11, va_up (df4) 0 (.ref (a + 1))), zC 21 16000 (.long 0), (0, 2, va_up (df0) 0 (.ref (a + 2 + 1))), zC 21 5 (.long 0)]) (L2 := [(4, 11, va_up (va_up (df4) 0 (.ref (a + 1))) 1 (.ref (a + 2))), zC 21 16000 (.long 0), (0, 2, va_up (df0) 0 (.ref (a + 2 + 1))), zC 21 5 (.long 0)]) rfl (Nat.le_of_ble_eq_true rfl) rfl (Nat.le_of_ble_eq_true rfl) rfl) ?_
  refine lt_of (RH_mk (L := [(4, 11, va_up (va_up (df4) 0 (.ref (a + 1))) 1 (.ref (a + 2))), zC 21 16000 (.long 0), (0, 2, va_up (df0) 0 (.ref (a + 2 + 1))), zC 21 5 (.long 0)]) (c := (1, 10, df1))) ?_
  refine bind_of (i1_ (L0 := [(4, 11, va_up (va_up (df4) 0 (.ref (a + 1))) 1 (.ref (a + 2))), zC 21 16000 (.long 0), (0, 2, va_up (df0) 0 (.ref (a + 2 + 1))), zC 21 5 (.long 0)]) (b := a + 4) rfl) ?_
  refine bind_of (RH_p (k := 0) (L := [(4, 11, va_up (va_up (df4) 0 (.ref (a + 1))) 1 (.ref (a + 2))), zC 21 16000 (.long 0), (0, 2, va_up (df0) 0 (.ref (a + 2 + 1))), zC 21 5 (.long 0), (1, 10, va_up (va_up (df1) 0 (.ref (a + 4 + 1))) 6 (.int (iI (-1)))), zC 20 24 (.int 0)]) (L2 := [(4, 11, va_up (va_up (va_up (df4) 0 (.ref (a + 1))) 1 (.ref (a + 2))) 2 (.ref (a + 4))), zC 21 16000 (.long 0), (0, 2, va_up (df0) 0 (.ref (a + 2 + 1))), zC 21 5 (.long 0), (1, 10, va_up (va_up (df1) 0 (.ref (a + 4 + 1))) 6 (.int (iI (-1)))), zC 20 24 (.int 0)]) rfl (Nat.le_of_ble_eq_true rfl) rfl (Nat.le_of_ble_eq_true rfl) rfl) ?_
  refine bind_of (RH_mkA (k := 4) (L := [(4, 11, va_up (va_up (va_up (df4) 0 (.ref (a + 1))) 1 (.ref (a + 2))) 2 (.ref (a + 4))), zC 21 16000 (.long 0), (0, 2, va_up (df0) 0 (.ref (a + 2 + 1))), zC 21 5 (.long 0), (1, 10, va_up (va_up (df1) 0 (.ref (a + 4 + 1))) 6 (.int (iI (-1)))), zC 20 24 (.int 0)]) (Nat.le_of_ble_eq_true rfl)) ?_
  refine bind_of (RH_p (k := 0) (L := [(4, 11, va_up (va_up (va_up (df4) 0 (.ref (a + 1))) 1 (.ref (a + 2))) 2 (.ref (a + 4))), zC 21 16000 (.long 0), (0, 2, va_up (df0) 0 (.ref (a + 2 + 1))), zC 21 5 (.long 0), (1, 10, va_up (va_up (df1) 0 (.ref (a + 4 + 1))) 6 (.int (iI (-1)))), zC 20 24 (.int 0), zC 26 4 (.null)]) (L2 := [(4, 11, va_up (va_up (va_up (va_up (df4) 0 (.ref (a + 1))) 1 (.ref (a + 2))) 2 (.ref (a + 4))) 3 (.ref (a + 6))), zC 21 16000 (.long 0), (0, 2, va_up (df0) 0 (.ref (a + 2 + 1))), zC 21 5 (.long 0), (1, 10, va_up (va_up (df1) 0 (.ref (a + 4 + 1))) 6 (.int (iI (-1)))), zC 20 24 (.int 0), zC 26 4 (.null)]) rfl (Nat.le_of_ble_eq_true rfl) rfl (Nat.le_of_ble_eq_true rfl) rfl) ?_
  refine bind_of (it_F4 h4_l45_0 h4_l45_1 h4_l45_2 h4_l45_3 h4_l45_x) ?_
  refine congrArg some (congrArg (fun q => RH a P q _) ?_)
  try dsimp only
  try omega
end RHS
