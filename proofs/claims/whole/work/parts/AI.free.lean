/-! the reference's free shop: its fields, an act of it -/
def frF (x y l f g m u v : Int) (j : Nat) (z : Int) : Int := if j = 42 then x else if j = 43 then y else if j = 44 then l else if j = 45 then f else if j = 46 then g else if j = 47 then m else if j = 26 then u else if j = 27 then v else z
def frW (B : Bk) (x y l f g m u v : Int) : Bk := (fun e j => if e = mo then frF x y l f g m u v j (B.1 e j) else B.1 e j, B.2)
def cdW (x y l f g m : Int) : Int := 32 * ((((x * 8 + y) * 5 + l) * 10 + f) * 10 + g) + m
section FR
variable {E : Ev} {B : Bk} {x y l f g m u v z : Int}
theorem frW_42 : (frW B x y l f g m u v).1 mo 42 = x := by unfold frW frF; simp
theorem frW_43 : (frW B x y l f g m u v).1 mo 43 = y := by unfold frW frF; simp
theorem frW_44 : (frW B x y l f g m u v).1 mo 44 = l := by unfold frW frF; simp
theorem frW_45 : (frW B x y l f g m u v).1 mo 45 = f := by unfold frW frF; simp
theorem frW_46 : (frW B x y l f g m u v).1 mo 46 = g := by unfold frW frF; simp
theorem frW_47 : (frW B x y l f g m u v).1 mo 47 = m := by unfold frW frF; simp
theorem frW_26 : (frW B x y l f g m u v).1 mo 26 = u := by unfold frW frF; simp
theorem frW_27 : (frW B x y l f g m u v).1 mo 27 = v := by unfold frW frF; simp
theorem frW_2 : (frW B x y l f g m u v).2 = B.2 := rfl
theorem frW_o {e j : Nat} (h : e = mo → ¬ (42 ≤ j ∧ j ≤ 47) ∧ j ≠ 26 ∧ j ≠ 27) : (frW B x y l f g m u v).1 e j = B.1 e j := by
  show (if e = mo then frF x y l f g m u v j (B.1 e j) else B.1 e j) = _
  by_cases q : e = mo
  · obtain ⟨h1, h2, h3⟩ := h q
    rw [if_pos q]
    unfold frF
    rw [if_neg (by omega), if_neg (by omega), if_neg (by omega), if_neg (by omega), if_neg (by omega), if_neg (by omega), if_neg h2, if_neg h3]
  · rw [if_neg q]
theorem frW_w42 : wI (frW B x y l f g m u v) mo 42 z = frW B z y l f g m u v := by
  refine Prod.ext ?_ rfl
  funext e j
  show (if e = mo ∧ j = 42 then z else if e = mo then frF x y l f g m u v j (B.1 e j) else B.1 e j) = (if e = mo then frF z y l f g m u v j (B.1 e j) else B.1 e j)
  by_cases q : e = mo
  · rw [if_pos q, if_pos q]
    by_cases qj : j = 42
    · rw [if_pos ⟨q, qj⟩, qj]
      unfold frF
      simp
    · rw [if_neg (fun y => qj y.2)]
      unfold frF
      simp only [if_neg qj]
  · rw [if_neg q, if_neg q, if_neg (fun y => q y.1)]
theorem frW_w43 : wI (frW B x y l f g m u v) mo 43 z = frW B x z l f g m u v := by
  refine Prod.ext ?_ rfl
  funext e j
  show (if e = mo ∧ j = 43 then z else if e = mo then frF x y l f g m u v j (B.1 e j) else B.1 e j) = (if e = mo then frF x z l f g m u v j (B.1 e j) else B.1 e j)
  by_cases q : e = mo
  · rw [if_pos q, if_pos q]
    by_cases qj : j = 43
    · rw [if_pos ⟨q, qj⟩, qj]
      unfold frF
      simp
    · rw [if_neg (fun y => qj y.2)]
      unfold frF
      simp only [if_neg qj]
  · rw [if_neg q, if_neg q, if_neg (fun y => q y.1)]
theorem frW_w44 : wI (frW B x y l f g m u v) mo 44 z = frW B x y z f g m u v := by
  refine Prod.ext ?_ rfl
  funext e j
  show (if e = mo ∧ j = 44 then z else if e = mo then frF x y l f g m u v j (B.1 e j) else B.1 e j) = (if e = mo then frF x y z f g m u v j (B.1 e j) else B.1 e j)
  by_cases q : e = mo
  · rw [if_pos q, if_pos q]
    by_cases qj : j = 44
    · rw [if_pos ⟨q, qj⟩, qj]
      unfold frF
      simp
    · rw [if_neg (fun y => qj y.2)]
      unfold frF
      simp only [if_neg qj]
  · rw [if_neg q, if_neg q, if_neg (fun y => q y.1)]
theorem frW_w45 : wI (frW B x y l f g m u v) mo 45 z = frW B x y l z g m u v := by
  refine Prod.ext ?_ rfl
  funext e j
  show (if e = mo ∧ j = 45 then z else if e = mo then frF x y l f g m u v j (B.1 e j) else B.1 e j) = (if e = mo then frF x y l z g m u v j (B.1 e j) else B.1 e j)
  by_cases q : e = mo
  · rw [if_pos q, if_pos q]
    by_cases qj : j = 45
    · rw [if_pos ⟨q, qj⟩, qj]
      unfold frF
      simp
    · rw [if_neg (fun y => qj y.2)]
      unfold frF
      simp only [if_neg qj]
  · rw [if_neg q, if_neg q, if_neg (fun y => q y.1)]
theorem frW_w46 : wI (frW B x y l f g m u v) mo 46 z = frW B x y l f z m u v := by
  refine Prod.ext ?_ rfl
  funext e j
  show (if e = mo ∧ j = 46 then z else if e = mo then frF x y l f g m u v j (B.1 e j) else B.1 e j) = (if e = mo then frF x y l f z m u v j (B.1 e j) else B.1 e j)
  by_cases q : e = mo
  · rw [if_pos q, if_pos q]
    by_cases qj : j = 46
    · rw [if_pos ⟨q, qj⟩, qj]
      unfold frF
      simp
    · rw [if_neg (fun y => qj y.2)]
      unfold frF
      simp only [if_neg qj]
  · rw [if_neg q, if_neg q, if_neg (fun y => q y.1)]
theorem frW_w47 : wI (frW B x y l f g m u v) mo 47 z = frW B x y l f g z u v := by
  refine Prod.ext ?_ rfl
  funext e j
  show (if e = mo ∧ j = 47 then z else if e = mo then frF x y l f g m u v j (B.1 e j) else B.1 e j) = (if e = mo then frF x y l f g z u v j (B.1 e j) else B.1 e j)
  by_cases q : e = mo
  · rw [if_pos q, if_pos q]
    by_cases qj : j = 47
    · rw [if_pos ⟨q, qj⟩, qj]
      unfold frF
      simp
    · rw [if_neg (fun y => qj y.2)]
      unfold frF
      simp only [if_neg qj]
  · rw [if_neg q, if_neg q, if_neg (fun y => q y.1)]
theorem frW_w26 : wI (frW B x y l f g m u v) mo 26 z = frW B x y l f g m z v := by
  refine Prod.ext ?_ rfl
  funext e j
  show (if e = mo ∧ j = 26 then z else if e = mo then frF x y l f g m u v j (B.1 e j) else B.1 e j) = (if e = mo then frF x y l f g m z v j (B.1 e j) else B.1 e j)
  by_cases q : e = mo
  · rw [if_pos q, if_pos q]
    by_cases qj : j = 26
    · rw [if_pos ⟨q, qj⟩, qj]
      unfold frF
      simp
    · rw [if_neg (fun y => qj y.2)]
      unfold frF
      simp only [if_neg qj]
  · rw [if_neg q, if_neg q, if_neg (fun y => q y.1)]
theorem frW_w27 : wI (frW B x y l f g m u v) mo 27 z = frW B x y l f g m u z := by
  refine Prod.ext ?_ rfl
  funext e j
  show (if e = mo ∧ j = 27 then z else if e = mo then frF x y l f g m u v j (B.1 e j) else B.1 e j) = (if e = mo then frF x y l f g m u z j (B.1 e j) else B.1 e j)
  by_cases q : e = mo
  · rw [if_pos q, if_pos q]
    by_cases qj : j = 27
    · rw [if_pos ⟨q, qj⟩, qj]
      unfold frF
      simp
    · rw [if_neg (fun y => qj y.2)]
      unfold frF
      simp only [if_neg qj]
  · rw [if_neg q, if_neg q, if_neg (fun y => q y.1)]
theorem frW_sf : frW B (B.1 mo 42) (B.1 mo 43) (B.1 mo 44) (B.1 mo 45) (B.1 mo 46) (B.1 mo 47) (B.1 mo 26) (B.1 mo 27) = B := by
  refine Prod.ext ?_ rfl
  funext e j
  show (if e = mo then frF (B.1 mo 42) (B.1 mo 43) (B.1 mo 44) (B.1 mo 45) (B.1 mo 46) (B.1 mo 47) (B.1 mo 26) (B.1 mo 27) j (B.1 e j) else B.1 e j) = _
  by_cases q : e = mo
  · subst q
    rw [if_pos rfl]
    unfold frF
    repeat' split
    all_goals first | rfl | (subst_vars; rfl)
  · rw [if_neg q]
theorem frW_tB {a b : Int} : tB (frW B x y l f g m u v) a b = frW B x y l f g m a b := by
  unfold tB
  rw [frW_w26, frW_w27]
theorem frW_sc : sc B (frW B x y l f g m u v) := by
  refine ⟨fun d j q => frW_o (fun e => ?_), fun _ _ _ => rfl, rfl, fun _ _ _ => rfl, fun _ _ _ => rfl⟩
  have := q e
  unfold msv at this
  omega
theorem frW_MV {V : Vy} (h : MV B V) : MV (frW B x y l f g m u v) V := by
  unfold MV at *
  rw [frW_o (e := mo) (j := 33) (by omega), frW_o (e := mo) (j := 34) (by omega), frW_o (e := mo) (j := 35) (by omega), frW_o (e := mo) (j := 36) (by omega), frW_o (e := mo) (j := 37) (by omega), frW_o (e := mo) (j := 38) (by omega)]
  exact h
/-- rows of longs alone may change -/
theorem jMV {C : Bk} {V : Vy} (e1 : C.1 = B.1) (e4 : C.2.2.2.1 = B.2.2.2.1) (h : MV B V) : MV C V := by
  unfold MV mWd at *
  rw [e1, e4]
  exact h
def dOK (x y l f g m : Int) : Prop := (0 ≤ x ∧ x < 8) ∧ (0 ≤ y ∧ y < 8) ∧ (0 ≤ l ∧ l < 5) ∧ (0 ≤ f ∧ f < 10) ∧ (0 ≤ g ∧ g < 10) ∧ (0 ≤ m ∧ m < 32)
set_option maxHeartbeats 200000 in
theorem m_readsN {k n n1 n2 n3 x' y' l' f' g' m' : Int} (rm : mKd E mo) (k0 : 0 ≤ k) (k1 : k < 1024000) (em : k % 32 = m') (en : k / 32 = n) (n00 : 0 ≤ n) (n01 : n < 32000) (eg : n % 10 = g') (e1 : n / 10 = n1) (n10 : 0 ≤ n1) (n11 : n1 < 32000) (ef : n1 % 10 = f') (e2 : n / 100 = n2) (n20 : 0 ≤ n2) (n21 : n2 < 32000) (el : n2 % 5 = l') (e3 : n / 500 = n3) (n30 : 0 ≤ n3) (n31 : n3 < 32000) (ey : n3 % 8 = y') (ex : n / 4000 = x') : fX9_reads_ (E.1 + mo) (iI k) (St E (frW B x y l f g m u v)) = some (St E (frW B x' y' l' f' g' m' u v)) := by
  unfold fX9_reads_
  rw [c9 rm.1, some_bind, mI_ok k0 (by omega) (by omega) (by omega), em, some_bind, p9_47 rm.1, some_bind, frW_w47, dI_ok k0 (by omega) (by omega) (by omega), en, some_bind, mI_ok n00 (by omega) (by omega) (by omega), eg, some_bind, p9_46 rm.1, some_bind, frW_w46, dI_ok n00 (by omega) (by omega) (by omega), e1, some_bind, mI_ok n10 (by omega) (by omega) (by omega), ef, some_bind, p9_45 rm.1, some_bind, frW_w45, dI_ok n00 (by omega) (by omega) (by omega), e2, some_bind, mI_ok n20 (by omega) (by omega) (by omega), el, some_bind, p9_44 rm.1, some_bind, frW_w44, dI_ok n00 (by omega) (by omega) (by omega), e3, some_bind, mI_ok n30 (by omega) (by omega) (by omega), ey, some_bind, p9_43 rm.1, some_bind, frW_w43, dI_ok n00 (by omega) (by omega) (by omega), ex, some_bind, p9_42 rm.1, some_bind, frW_w42]
set_option maxHeartbeats 200000 in
theorem m_readsC {x' y' l' f' g' m' : Int} (rm : mKd E mo) (h : dOK x' y' l' f' g' m') : fX9_reads_ (E.1 + mo) (iI (cdW x' y' l' f' g' m')) (St E (frW B x y l f g m u v)) = some (St E (frW B x' y' l' f' g' m' u v)) := by
  obtain ⟨⟨h1, h2⟩, ⟨h3, h4⟩, ⟨h5, h6⟩, ⟨h7, h8⟩, ⟨h9, h10⟩, h11, h12⟩ := h
  obtain ⟨n3, hn3⟩ : ∃ n3, n3 = x' * 8 + y' := ⟨_, rfl⟩
  obtain ⟨n2, hn2⟩ : ∃ n2, n2 = n3 * 5 + l' := ⟨_, rfl⟩
  obtain ⟨n1, hn1⟩ : ∃ n1, n1 = n2 * 10 + f' := ⟨_, rfl⟩
  obtain ⟨n, hn⟩ : ∃ n, n = n1 * 10 + g' := ⟨_, rfl⟩
  have ec : cdW x' y' l' f' g' m' = 32 * n + m' := by
    unfold cdW
    rw [hn, hn1, hn2, hn3]
  rw [ec]
  exact m_readsN (n := n) (n1 := n1) (n2 := n2) (n3 := n3) rm (by omega) (by omega) (by omega) (by omega) (by omega) (by omega) (by omega) (by omega) (by omega) (by omega) (by omega) (by omega) (by omega) (by omega) (by omega) (by omega) (by omega) (by omega) (by omega) (by omega)
theorem m_stateF (rm : mKd E mo) : fX9_state (E.1 + mo) (St E (frW B x y l f g m u v)) = some (iI ((((x * 8 + y) * 5 + l) * 10 + f) * 10 + g), St E (frW B x y l f g m u v)) := by
  simp only [fX9_state, c9 rm.1, some_bind, g9_42 rm.1, frW_42, g9_43 rm.1, frW_43, g9_44 rm.1, frW_44, g9_45 rm.1, frW_45, g9_46 rm.1, frW_46, iI_mul, iI_add]
/-- a bit of a row of longs, by its number -/
def onJ (B : Bk) (e : Nat) (c : Int) : Bool := tb (B.2.2.2.2 e (c / 64)) (c % 64).toNat
def spJ (B : Bk) (e : Nat) (c : Int) : Bk := wJ B e (c / 64) (B.2.2.2.2 e (c / 64) ||| lsh 1 (iI (c % 64)))
theorem spJ_on {e : Nat} {c c' : Int} (h : 0 ≤ c) (h' : 0 ≤ c') : onJ (spJ B e c) e c' = (onJ B e c' || decide (c' = c)) := by
  unfold onJ spJ
  rw [wJ_5]
  by_cases q : c' / 64 = c / 64
  · rw [if_pos ⟨rfl, q⟩, tb_or, ← q]
    congr 1
    have := tb_one (k := (c % 64).toNat) (by omega) (i := (c' % 64).toNat) (by omega)
    rw [show (((c % 64).toNat : Nat) : Int) = c % 64 by omega] at this
    rw [this]
    congr 1
    apply propext
    omega
  · rw [if_neg (fun y => q y.2), decide_eq_false (by omega), Bool.or_false]
theorem spJ_o {e d : Nat} {c c' : Int} (h : d ≠ e) : onJ (spJ B e c) d c' = onJ B d c' := by
  unfold onJ spJ
  rw [wJ_5, if_neg (fun y => h y.1)]
theorem frW_sp {e : Nat} {c : Int} : spJ (frW B x y l f g m u v) e c = frW (spJ B e c) x y l f g m u v := rfl
theorem frW_on {e : Nat} {c : Int} : onJ (frW B x y l f g m u v) e c = onJ B e c := rfl
theorem frW_wJ {e : Nat} {c : Int} {w : Int64} : wJ (frW B x y l f g m u v) e c w = frW (wJ B e c w) x y l f g m u v := rfl
set_option maxHeartbeats 200000 in
theorem m_putsN {e : Nat} {k : Int} (rm : mKd E mo) (ke : KD E e 21 16000) (k0 : 0 ≤ k) (k1 : k < 1024000) (ek : 32 * ((((x * 8 + y) * 5 + l) * 10 + f) * 10 + g) + m = k) : fX9_puts (E.1 + mo) (E.1 + e) (St E (frW B x y l f g m u v)) = some (St E (frW (spJ B e k) x y l f g m u v)) := by
  unfold fX9_puts spJ
  rw [c9 rm.1, some_bind, m_stateF rm, some_bind, g9_47 rm.1, some_bind, frW_47]
  unfold lt_
  rw [iI_mul, iI_add, ek]
  dsimp only
  rw [dI_ok k0 (by omega) (by omega) (by omega), some_bind, aL_ok ke (by omega) (by omega) (by omega), some_bind, mI_ok k0 (by omega) (by omega) (by omega), some_bind, sL_ok ke (by omega) (by omega) (by omega), some_bind, frW_wJ, frW_2]
theorem m_putsF {e : Nat} (rm : mKd E mo) (ke : KD E e 21 16000) (h : dOK x y l f g m) : fX9_puts (E.1 + mo) (E.1 + e) (St E (frW B x y l f g m u v)) = some (St E (frW (spJ B e (cdW x y l f g m)) x y l f g m u v)) := by
  obtain ⟨⟨h1, h2⟩, ⟨h3, h4⟩, ⟨h5, h6⟩, ⟨h7, h8⟩, ⟨h9, h10⟩, h11, h12⟩ := h
  obtain ⟨k, hk⟩ : ∃ k, k = cdW x y l f g m := ⟨_, rfl⟩
  have ek : 32 * ((((x * 8 + y) * 5 + l) * 10 + f) * 10 + g) + m = k := by rw [hk]; unfold cdW; rfl
  rw [← hk]
  exact m_putsN rm ke (by omega) (by omega) ek
theorem m_isOnF {e : Nat} {c : Int} (ke : KD E e 21 16000) (c0 : 0 ≤ c) (c1 : c < 1024000) : fX9_isOn (E.1 + e) (iI c) (St E B) = some (iI (if onJ B e c then 1 else 0), St E B) := by
  have t := tb_lsr (k := (c % 64).toNat) (by omega) (B.2.2.2.2 e (c / 64))
  rw [show (((c % 64).toNat : Nat) : Int) = c % 64 by omega] at t
  have b := tb_bit1 (x := lsr (B.2.2.2.2 e (c / 64)) (iI (c % 64)))
  rw [t] at b
  simp (disch := omega) only [fX9_isOn, dI_ok, mI_ok, some_bind, aL_ok ke, lg_cmp_eq, b]
  unfold onJ
  split <;> rfl
end FR
