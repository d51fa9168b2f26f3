/-! things under construction: a list of raw cells behind those that stand -/
def nilC : PC := (99, 0, fun _ => .null)
def Rw (E : Ev) (B : Bk) (m : Nat) (L : List PC) : Hp := (E.1 + (E.2.2.2.1 + L.length), E.2.2.2.2 + m, fun x => if x < E.1 + E.2.2.2.1 then (St E B).2.2 x else L.getD (x - (E.1 + E.2.2.2.1)) nilC)
def upC (c : PC) (j : Nat) (v : Value) : PC := (c.1, c.2.1, va_up c.2.2 j v)
theorem gdL_d {α : Type} {L : List α} {i : Nat} {z : α} (h : L.length ≤ i) : L.getD i z = z := by
  rw [List.getD_eq_getElem?_getD, List.getElem?_eq_none h]
  rfl
theorem gdL_a {α : Type} {L M : List α} {i : Nat} {z : α} (h : i < L.length) : (L ++ M).getD i z = L.getD i z := by
  rw [List.getD_eq_getElem?_getD, List.getD_eq_getElem?_getD, List.getElem?_append_left h]
section RAW
variable {E : Ev} {B : Bk} {m : Nat} {L : List PC}
theorem Rw_0 : St E B = Rw E B 0 [] := by
  unfold Rw
  refine Prod.ext rfl (Prod.ext rfl ?_)
  funext x
  dsimp only
  by_cases h : x < E.1 + E.2.2.2.1
  · rw [if_pos h]
  · rw [if_neg h]
    unfold St
    dsimp only
    rw [if_neg (by omega), if_neg h]
    rfl
theorem Rw_1 : (Rw E B m L).1 = E.1 + (E.2.2.2.1 + L.length) := rfl
theorem Rw_at {i : Nat} : (Rw E B m L).2.2 (E.1 + (E.2.2.2.1 + i)) = L.getD i nilC := by
  unfold Rw
  dsimp only
  rw [if_neg (by omega), show E.1 + (E.2.2.2.1 + i) - (E.1 + E.2.2.2.1) = i by omega]
theorem Rw_mk {c : PC} : mk (Rw E B m L) c = Rw E B (m + c.2.1) (L ++ [c]) := by
  unfold mk Rw
  refine Prod.ext ?_ (Prod.ext ?_ ?_)
  · show E.1 + (E.2.2.2.1 + L.length) + 1 = E.1 + (E.2.2.2.1 + (L ++ [c]).length)
    rw [List.length_append]
    show _ = E.1 + (E.2.2.2.1 + (L.length + 1))
    omega
  · show E.2.2.2.2 + m + c.2.1 = E.2.2.2.2 + (m + c.2.1)
    omega
  · funext x
    dsimp only
    unfold va_up
    by_cases h0 : x = E.1 + (E.2.2.2.1 + L.length)
    · subst h0
      rw [if_pos rfl, if_neg (by omega), show E.1 + (E.2.2.2.1 + L.length) - (E.1 + E.2.2.2.1) = L.length by omega]
      simp
    · rw [if_neg h0]
      dsimp only
      by_cases h : x < E.1 + E.2.2.2.1
      · rw [if_pos h, if_pos h]
      · rw [if_neg h, if_neg h]
        obtain ⟨i, rfl⟩ : ∃ i, x = E.1 + E.2.2.2.1 + i := ⟨x - (E.1 + E.2.2.2.1), by omega⟩
        rw [Nat.add_sub_cancel_left]
        rcases Nat.lt_or_ge i L.length with q | q
        · rw [gdL_a q]
        · rw [gdL_d q, gdL_d (by rw [List.length_append]; show L.length + 1 ≤ i; omega)]
theorem Rw_mkA {t k : Nat} {v : Value} (h : k ≤ 60000) : mkA (Rw E B m L) t (iI (k : Int)) v = some (Rw E B (m + k) (L ++ [(t, k, fun _ => v)])) := by
  have cl := iI_cl (z := (k : Int)) (n := 60001) (by omega) (by omega) (by omega)
  have e : (iI (k : Int)).toNatClampNeg = k := by omega
  unfold mkA
  rw [if_pos ⟨fun y => cl.1 (Or.inl y), by omega⟩, e, Rw_mk]
theorem Rw_cu {i : Nat} {c : PC} (hi : i < L.length) : cu (Rw E B m L) (E.1 + (E.2.2.2.1 + i)) c = Rw E B m (L.set i c) := by
  unfold cu Rw
  refine Prod.ext ?_ (Prod.ext rfl ?_)
  · show E.1 + (E.2.2.2.1 + L.length) = E.1 + (E.2.2.2.1 + (L.set i c).length)
    rw [List.length_set]
  · funext x
    dsimp only
    unfold va_up
    by_cases h0 : x = E.1 + (E.2.2.2.1 + i)
    · subst h0
      rw [if_pos rfl, if_neg (by omega), show E.1 + (E.2.2.2.1 + i) - (E.1 + E.2.2.2.1) = i by omega]
      simp [List.getD, hi]
    · rw [if_neg h0]
      dsimp only
      by_cases h : x < E.1 + E.2.2.2.1
      · rw [if_pos h, if_pos h]
      · rw [if_neg h, if_neg h]
        obtain ⟨k, rfl⟩ : ∃ k, x = E.1 + E.2.2.2.1 + k := ⟨x - (E.1 + E.2.2.2.1), by omega⟩
        rw [Nat.add_sub_cancel_left]
        have ne : ¬ i = k := by omega
        simp [List.getD, ne]
theorem Rw_ptV {i ci j : Nat} {v : Value} (hi : i < L.length) (h1 : (L.getD i nilC).1 = ci) (h2 : j < (L.getD i nilC).2.1) : ptV (Rw E B m L) (E.1 + (E.2.2.2.1 + i)) ci j v = some (Rw E B m (L.set i (upC (L.getD i nilC) j v))) := by
  unfold ptV wr
  rw [Rw_at, if_pos ⟨h1, h2⟩, Rw_cu hi]
  rfl
theorem Rw_ck {i ci : Nat} (h1 : (L.getD i nilC).1 = ci) : ck (Rw E B m L) (E.1 + (E.2.2.2.1 + i)) ci = some () := by
  unfold ck
  rw [Rw_at, if_pos h1]
theorem Rw_gtV {i ci j : Nat} (h1 : (L.getD i nilC).1 = ci) (h2 : j < (L.getD i nilC).2.1) : gtV (Rw E B m L) (E.1 + (E.2.2.2.1 + i)) ci j = some ((L.getD i nilC).2.2 j) := by
  unfold gtV
  rw [Rw_at, if_pos ⟨h1, h2⟩]
theorem Rw_sR {i ci t x k : Nat} (hi : i < L.length) (hx : (L.getD x nilC).1 = ci) (h1 : (L.getD i nilC).1 = t) (h2 : k < (L.getD i nilC).2.1) (h3 : (L.getD i nilC).2.1 ≤ 60000) : sR (Rw E B m L) t ci (E.1 + (E.2.2.2.1 + i)) (iI (k : Int)) (E.1 + (E.2.2.2.1 + x)) = some (Rw E B m (L.set i (upC (L.getD i nilC) k (.ref (E.1 + (E.2.2.2.1 + x)))))) := by
  have cl := iI_cl (z := (k : Int)) (n := (L.getD i nilC).2.1) (by omega) (by omega) (by omega)
  have e : (iI (k : Int)).toNatClampNeg = k := by omega
  unfold sR stV wr
  rw [Rw_at, if_pos hx, Rw_at, if_pos ⟨h1, cl.1⟩, e, Rw_cu hi]
  rfl
/-- kinds of new cells behind those of E -/
def En (E : Ev) (m : Nat) (T : List (Nat × Nat)) : Ev := (E.1, E.2.1, fun d => if d < E.2.2.2.1 then E.2.2.1 d else T.getD (d - E.2.2.2.1) (99, 0), E.2.2.2.1 + T.length, E.2.2.2.2 + m)
theorem Rw_St {B' : Bk} {T : List (Nat × Nat)} (hl : T.length = L.length) (hc : ∀ i, i < L.length → L.getD i nilC = cellB E.1 (T.getD i (99, 0)) B' (E.2.2.2.1 + i)) (ho : ∀ e, e < E.2.2.2.1 → cellB E.1 (E.2.2.1 e) B' e = cellB E.1 (E.2.2.1 e) B e) : Rw E B m L = St (En E m T) B' := by
  unfold Rw
  refine Prod.ext ?_ (Prod.ext rfl ?_)
  · show E.1 + (E.2.2.2.1 + L.length) = E.1 + (E.2.2.2.1 + T.length)
    rw [hl]
  · funext x
    unfold St En
    dsimp only
    by_cases h1 : x < E.1
    · rw [if_pos (by omega), if_pos h1, if_pos h1]
    · rw [if_neg h1, if_neg h1]
      by_cases h : x < E.1 + E.2.2.2.1
      · rw [if_pos h, if_pos h, if_pos (by omega), if_pos (by omega), ho _ (by omega)]
      · rw [if_neg h]
        obtain ⟨i, rfl⟩ : ∃ i, x = E.1 + E.2.2.2.1 + i := ⟨x - (E.1 + E.2.2.2.1), by omega⟩
        rw [Nat.add_sub_cancel_left]
        by_cases q : i < L.length
        · rw [if_pos (by omega), hc i q, if_neg (by omega), show E.1 + E.2.2.2.1 + i - E.1 = E.2.2.2.1 + i by omega, Nat.add_sub_cancel_left]
        · rw [if_neg (by omega), gdL_d (by omega)]
          rfl
end RAW
