/-! feed and end once more, with the rows of both tapes; a heap that grows -/
def QT2 (E : Ev) (B : Bk) (f g : Hp → Option (Int32 × Hp)) : Prop := ∃ v B1 B2, f (St E B) = some (v, St E B1) ∧ g (St E B1) = some (v, St E B2) ∧ frT B B2 ∧ rTp B2 ∧ rT2 B2
section F2
variable {E : Ev} {B : Bk}
theorem o_end2 {k : Int} (rc : KD E co 8 13) (rm : mKd E mo) (T : rTp B) (T2 : rT2 B) (hk : i32 k) : QT2 E B (fX8_end (E.1 + co) (iI k)) (fX9_end (E.1 + mo) (iI k)) := by
  have hco : co = 0 := rfl
  have hmo : mo = 58 := rfl
  obtain ⟨k1, k2⟩ := hk
  obtain ⟨t1, t2, t3, t4, t5, t6, t7⟩ := T
  by_cases c : 0 ≤ k ∧ k ≤ B.1 co 10
  · have e6 : (wI (wI B co 10 k) mo 0 0).1 mo 6 = B.1 co 10 := by rw [wI_1, if_neg (by omega), wI_1, if_neg (by omega), t2]
    refine ⟨iI k, wI B co 10 k, wI (wI (wI B co 10 k) mo 0 0) mo 6 k, ?_, ?_, ⟨fun d j q1 q2 => ?_, fun _ _ _ => rfl, rfl, fun _ _ _ _ _ => rfl, fun _ _ _ => rfl⟩, ?_, ?_⟩
    · simp (disch := omega) only [fX8_end, c8 rc, g8_10 rc, p8_10 rc, some_bind, iI_0, iI_lt, iI_le]
      rw [if_neg (by omega), if_pos c.2]
    · simp (disch := omega) only [fX9_end, c9 rm.1, p9_0 rm.1, g9_6 rm.1, some_bind, e6, jI_i, jI_0, m_in, iI_0, ib, p9_6 rm.1]
      rw [if_pos c]
    · rw [wI_1, if_neg (fun p => by have := q2 p.1; omega), wI_1, if_neg (fun p => by have := q2 p.1; omega), wI_1, if_neg (fun p => q1 p.1 p.2)]
    · have f10 : (wI (wI (wI B co 10 k) mo 0 0) mo 6 k).1 co 10 = k := by rw [wI_1, if_neg (by omega), wI_1, if_neg (by omega), wI_1, if_pos ⟨rfl, rfl⟩]
      have f6 : (wI (wI (wI B co 10 k) mo 0 0) mo 6 k).1 mo 6 = k := by rw [wI_1, if_pos ⟨rfl, rfl⟩]
      have f14 : (wI (wI (wI B co 10 k) mo 0 0) mo 6 k).1 mo 14 = B.1 mo 14 := by rw [wI_1, if_neg (by omega), wI_1, if_neg (by omega), wI_1, if_neg (by omega)]
      have f15 : (wI (wI (wI B co 10 k) mo 0 0) mo 6 k).1 mo 15 = B.1 mo 15 := by rw [wI_1, if_neg (by omega), wI_1, if_neg (by omega), wI_1, if_neg (by omega)]
      have f20 : ∀ j, (wI (wI (wI B co 10 k) mo 0 0) mo 6 k).1 (co + 2) j = B.1 (co + 2) j := fun j => by rw [wI_1, if_neg (by omega), wI_1, if_neg (by omega), wI_1, if_neg (by omega)]
      unfold rTp
      rw [f10, f6, f14, f15, f20, f20]
      exact ⟨⟨by omega, by omega⟩, rfl, fun z z1 z2 => t3 z z1 (by omega), t4, t5, t6, t7⟩
    · exact ⟨T2.1, by rw [wI_1, if_neg (by omega), wI_1, if_neg (by omega), wI_1, if_neg (by omega)]; exact T2.2.1, by rw [wI_1, if_neg (by omega), wI_1, if_neg (by omega), wI_1, if_neg (by omega)]; exact T2.2.2⟩
  · refine ⟨iI (-1), B, wI B mo 0 0, ?_, ?_, ⟨fun d j q1 q2 => ?_, fun _ _ _ => rfl, rfl, fun _ _ _ _ _ => rfl, fun _ _ _ => rfl⟩, ?_, ?_⟩
    · simp (disch := omega) only [fX8_end, fX8_end_b12, c8 rc, g8_10 rc, some_bind, iI_0, iI_lt, iI_le]
      by_cases q : k < 0
      · rw [if_pos q]
      · rw [if_neg q, if_neg (by omega)]
    · have e6 : (wI B mo 0 0).1 mo 6 = B.1 co 10 := by rw [wI_1, if_neg (by omega), t2]
      simp (disch := omega) only [fX9_end, c9 rm.1, p9_0 rm.1, g9_6 rm.1, some_bind, e6, jI_i, jI_0, m_in, iI_0, ib]
      rw [if_neg c]
    · rw [wI_1, if_neg (fun p => by have := q2 p.1; omega)]
    · have f : ∀ d j, (d = mo → j ≠ 0) → (wI B mo 0 0).1 d j = B.1 d j := fun d j q => by rw [wI_1, if_neg (fun p => q p.1 p.2)]
      unfold rTp
      rw [f co 10 (by omega), f mo 6 (by omega), f mo 14 (by omega), f mo 15 (by omega), f (co + 2) 0 (by omega), f (co + 2) 1 (by omega)]
      exact ⟨t1, t2, t3, t4, t5, t6, t7⟩
    · exact ⟨T2.1, by rw [wI_1, if_neg (by omega)]; exact T2.2.1, by rw [wI_1, if_neg (by omega)]; exact T2.2.2⟩
theorem o_feed2 {a b c g h : Int32} (rc : KD E co 8 13) (rt : KD E (co + 1) 22 1600) (rm : mKd E mo) (T : rTp B) (T2 : rT2 B) : QT2 E B (fX8_feed (E.1 + co) a b c g h) (fX9_feed (E.1 + mo) a b c g h) := by
  have hco : co = 0 := rfl
  have hmo : mo = 58 := rfl
  have T' := T
  obtain ⟨t1, t2, t3, t4, t5, t6, t7⟩ := T'
  by_cases q : B.1 co 10 ≤ 1580
  · have i1 : ∀ d j, (fdF co (co + 1) 10 a b c g h B).1 d j = if d = co ∧ j = 10 then B.1 co 10 + 20 else B.1 d j := fun d j => fdF_1
    have n6 : (fdF co (co + 1) 10 a b c g h B).1 mo 6 = B.1 co 10 := by rw [i1, if_neg (by omega)]; exact t2
    have e6 : (wI (fdF co (co + 1) 10 a b c g h B) mo 0 0).1 mo 6 = B.1 co 10 := by rw [wI_1, if_neg (by omega)]; exact n6
    have i2 : ∀ d j, (d = mo → j ≠ 0) → (fdF mo (mo + 5) 6 a b c g h (wI (fdF co (co + 1) 10 a b c g h B) mo 0 0)).1 d j = if d = mo ∧ j = 6 then B.1 co 10 + 20 else if d = co ∧ j = 10 then B.1 co 10 + 20 else B.1 d j := fun d j w => by
      rw [fdF_1, e6]
      by_cases w2 : d = mo ∧ j = 6
      · rw [if_pos w2, if_pos w2]
      · rw [if_neg w2, if_neg w2, wI_1, if_neg (fun y => w y.1 y.2), i1]
    have r2 : ∀ d z, (fdF mo (mo + 5) 6 a b c g h (wI (fdF co (co + 1) 10 a b c g h B) mo 0 0)).2.2.2.1 d z = if d = mo + 5 ∧ B.1 co 10 ≤ z ∧ z < B.1 co 10 + 20 then bb a b c g h (z - B.1 co 10) else if d = co + 1 ∧ B.1 co 10 ≤ z ∧ z < B.1 co 10 + 20 then bb a b c g h (z - B.1 co 10) else B.2.2.2.1 d z := fun d z => by
      rw [fdF_4, e6, wI_2, fdF_4]
    refine ⟨iI (B.1 co 10 + 20), fdF co (co + 1) 10 a b c g h B, fdF mo (mo + 5) 6 a b c g h (wI (fdF co (co + 1) 10 a b c g h B) mo 0 0), s8_feed rc rt t1.1 q, ?_, ⟨fun d j w1 w2 => ?_, fun d j _ => ?_, ?_, fun d z w1 w2 w3 => ?_, fun d z _ => ?_⟩, ?_, ?_⟩
    · have := m_feed (B := fdF co (co + 1) 10 a b c g h B) (a := a) (b := b) (c := c) (g := g) (h := h) rm (by rw [n6]; exact t1.1) (by rw [n6]; exact q)
      rw [n6] at this
      exact this
    · rw [i2 d j (fun y => by have := w2 y; omega), if_neg (fun y => by have := w2 y.1; omega), if_neg (fun y => w1 y.1 y.2)]
    · rw [fdF_r.1]
      show (fdF co (co + 1) 10 a b c g h B).2.1 d j = _
      rw [fdF_r.1]
    · rw [fdF_r.2.1]
      show (fdF co (co + 1) 10 a b c g h B).2.2.1 = _
      rw [fdF_r.2.1]
    · rw [r2, if_neg (fun y => w3 y.1), if_neg (fun y => w2 y.1)]
    · rw [fdF_r.2.2]
      show (fdF co (co + 1) 10 a b c g h B).2.2.2.2 d z = _
      rw [fdF_r.2.2]
    · unfold rTp
      rw [i2 co 10 (by omega), i2 mo 6 (by omega), i2 mo 14 (by omega), i2 mo 15 (by omega), i2 (co + 2) 0 (by omega), i2 (co + 2) 1 (by omega), if_neg (by omega), if_pos ⟨rfl, rfl⟩, if_pos ⟨rfl, rfl⟩, if_neg (by omega), if_neg (by omega), if_neg (by omega), if_neg (by omega), if_neg (by omega), if_neg (by omega), if_neg (by omega), if_neg (by omega)]
      refine ⟨⟨by omega, by omega⟩, rfl, fun z z0 z1 => ?_, t4, t5, t6, t7⟩
      rw [r2, r2]
      by_cases w : B.1 co 10 ≤ z
      · rw [if_pos ⟨rfl, w, z1⟩, if_neg (by omega), if_pos ⟨rfl, w, z1⟩]
        exact ⟨rfl, bb_b⟩
      · rw [if_neg (by omega), if_neg (by omega), if_neg (by omega), if_neg (by omega)]
        exact t3 z z0 (by omega)
    · refine ⟨funext fun z => ?_, by rw [i2 (co + 2) 7 (by omega), if_neg (by omega), if_neg (by omega)]; exact T2.2.1, by rw [i2 (co + 2) 7 (by omega), if_neg (by omega), if_neg (by omega)]; exact T2.2.2⟩
      rw [r2, r2]
      by_cases w : B.1 co 10 ≤ z ∧ z < B.1 co 10 + 20
      · rw [if_pos ⟨rfl, w⟩, if_neg (by omega), if_pos ⟨rfl, w⟩]
      · rw [if_neg (fun y => w y.2), if_neg (by omega), if_neg (by omega), if_neg (fun y => w y.2)]
        exact congrFun T2.1 z
  · refine ⟨iI (-1), B, wI B mo 0 0, ?_, ?_, ⟨fun d j w1 w2 => ?_, fun _ _ _ => rfl, rfl, fun _ _ _ _ _ => rfl, fun _ _ _ => rfl⟩, ?_, ?_⟩
    · simp (disch := omega) only [fX8_feed, c8 rc, g8_10 rc, some_bind, iI_le]
      rw [if_neg q]
    · have e6 : (wI B mo 0 0).1 mo 6 = B.1 co 10 := by rw [wI_1, if_neg (by omega), t2]
      simp (disch := omega) only [fX9_feed, c9 rm.1, p9_0 rm.1, g9_6 rm.1, some_bind, e6, iI_add, iI_le]
      rw [if_neg (by omega)]
    · rw [wI_1, if_neg (fun y => by have := w2 y.1; omega)]
    · have f : ∀ d j, (d = mo → j ≠ 0) → (wI B mo 0 0).1 d j = B.1 d j := fun d j w => by rw [wI_1, if_neg (fun y => w y.1 y.2)]
      unfold rTp
      rw [f co 10 (by omega), f mo 6 (by omega), f mo 14 (by omega), f mo 15 (by omega), f (co + 2) 0 (by omega), f (co + 2) 1 (by omega)]
      exact T
    · exact ⟨T2.1, by rw [wI_1, if_neg (by omega)]; exact T2.2.1, by rw [wI_1, if_neg (by omega)]; exact T2.2.2⟩
end F2
/-- one cell more -/
def Eg (E : Ev) (t : Nat × Nat) : Ev := (E.1, E.2.1, fun d => if d = E.2.2.2.1 then t else E.2.2.1 d, E.2.2.2.1 + 1, E.2.2.2.2 + t.2)
section GR
variable {E : Ev} {B : Bk}
theorem St_mk {B' : Bk} {c : PC} {t : Nat × Nat} (hc : c = cellB E.1 t B' E.2.2.2.1) (ho : ∀ e, e < E.2.2.2.1 → cellB E.1 (E.2.2.1 e) B' e = cellB E.1 (E.2.2.1 e) B e) : mk (St E B) c = St (Eg E t) B' := by
  have c2 : c.2.1 = t.2 := by rw [hc, cellB_2]
  unfold mk St Eg
  simp only
  refine Prod.ext (by simp only; omega) (Prod.ext (by simp only; omega) ?_)
  funext x
  unfold va_up
  dsimp only
  by_cases h0 : x = E.1 + E.2.2.2.1
  · subst h0
    rw [if_pos rfl, if_neg (by omega), if_pos (by omega), Nat.add_sub_cancel_left, if_pos rfl, hc]
  · rw [if_neg h0]
    by_cases h1 : x < E.1
    · rw [if_pos h1, if_pos h1]
    · rw [if_neg h1, if_neg h1]
      by_cases h2 : x < E.1 + E.2.2.2.1
      · rw [if_pos h2, if_pos (by omega), if_neg (by omega), ho (x - E.1) (by omega)]
      · rw [if_neg h2, if_neg (by omega)]
theorem KD_g {d ci k : Nat} {t : Nat × Nat} (h : KD E d ci k) : KD (Eg E t) d ci k := by
  obtain ⟨h1, h2⟩ := h
  refine ⟨by show d < E.2.2.2.1 + 1; omega, ?_⟩
  show (if d = E.2.2.2.1 then t else E.2.2.1 d) = _
  rw [if_neg (by omega), h2]
theorem KD_n {t : Nat × Nat} : KD (Eg E t) E.2.2.2.1 t.1 t.2 := by
  refine ⟨by show E.2.2.2.1 < E.2.2.2.1 + 1; omega, ?_⟩
  show (if E.2.2.2.1 = E.2.2.2.1 then t else _) = _
  rw [if_pos rfl]
/-- a row of noughts -/
def zA (B : Bk) (c : Nat) : Bk := (B.1, B.2.1, B.2.2.1, fun e z => if e = c then 0 else B.2.2.2.1 e z, B.2.2.2.2)
theorem zA_4 {c d : Nat} (h : d ≠ c) : (zA B c).2.2.2.1 d = B.2.2.2.1 d := by
  funext z
  exact if_neg h
theorem mkA_i {k : Nat} (h : k ≤ 60000) : mkA (St E B) 20 (iI k) (.int 0) = some (St (Eg E (20, k)) (zA B E.2.2.2.1)) := by
  have cl := iI_cl (z := k) (n := 60001) (by omega) (by omega) (by omega)
  have e : (iI k).toNatClampNeg = k := by omega
  unfold mkA
  rw [if_pos ⟨fun y => cl.1 (Or.inl y), by omega⟩, e]
  congr 1
  refine St_mk (t := (20, k)) ?_ (fun d hd => ?_)
  · refine Prod.ext (by rw [cellB_1]) (Prod.ext (by rw [cellB_2]) ?_)
    funext j
    rw [cellB_i (Or.inl rfl)]
    show Value.int 0 = .int (iI (if E.2.2.2.1 = E.2.2.2.1 then 0 else _))
    rw [if_pos rfl]
    rfl
  · unfold cellB fv
    simp only [zA]
    split
    · rfl
    · split
      · rfl
      · split
        · congr 2
          funext j
          rw [if_neg (by omega)]
        · rfl
/-- E' is E with some cells more -/
def Ex (E E' : Ev) : Prop := E'.1 = E.1 ∧ E'.2.1 = E.2.1 ∧ E.2.2.2.1 ≤ E'.2.2.2.1 ∧ (∀ d, d < E.2.2.2.1 → E'.2.2.1 d = E.2.2.1 d)
theorem Ex_rfl : Ex E E := ⟨rfl, rfl, Nat.le_refl _, fun _ _ => rfl⟩
theorem Ex_tr {E' E'' : Ev} (h : Ex E E') (g : Ex E' E'') : Ex E E'' := ⟨g.1.trans h.1, g.2.1.trans h.2.1, Nat.le_trans h.2.2.1 g.2.2.1, fun d hd => (g.2.2.2 d (Nat.lt_of_lt_of_le hd h.2.2.1)).trans (h.2.2.2 d hd)⟩
theorem Ex_g {t : Nat × Nat} : Ex E (Eg E t) := ⟨rfl, rfl, Nat.le_succ _, fun d hd => if_neg (by omega)⟩
theorem KD_x {E' : Ev} {d ci k : Nat} (x : Ex E E') (h : KD E d ci k) : KD E' d ci k := ⟨Nat.lt_of_lt_of_le h.1 x.2.2.1, (x.2.2.2 d h.1).trans h.2⟩
theorem VK_x {E' : Ev} {d : Nat} (x : Ex E E') (h : VK E d) : VK E' d := ⟨KD_x x h.1, KD_x x h.2.1, KD_x x h.2.2.1, KD_x x h.2.2.2.1, KD_x x h.2.2.2.2.1, KD_x x h.2.2.2.2.2⟩
theorem mKd_x {E' : Ev} {d : Nat} (x : Ex E E') (h : mKd E d) : mKd E' d := ⟨KD_x x h.1, fun k hk => KD_x x (h.2 k hk)⟩
theorem PK_x {E' : Ev} {d : Nat} (x : Ex E E') (h : PK E d) : PK E' d := ⟨KD_x x h.1, KD_x x h.2.1, KD_x x h.2.2.1, KD_x x h.2.2.2.1, KD_x x h.2.2.2.2.1, KD_x x h.2.2.2.2.2.1, KD_x x h.2.2.2.2.2.2⟩
theorem RV_x {E' : Ev} {n : Nat} (x : Ex E E') (h : RV E B n) : RV E' B n := ⟨⟨KD_x x h.1.1, h.1.2.1, VK_x x h.1.2.2.1, mKd_x x h.1.2.2.2⟩, h.2⟩
theorem RK_x {E' : Ev} (x : Ex E E') (h : RK E B) : RK E' B := ⟨KD_x x h.1, KD_x x h.2.1, mKd_x x h.2.2.1, fun k hk => ⟨KD_x x (h.2.2.2 k hk).1, KD_x x (h.2.2.2 k hk).2.1, (h.2.2.2 k hk).2.2⟩⟩
/-- all below c stays but the reference's scratch -/
def scG (c : Nat) (B B' : Bk) : Prop :=
  (∀ d j, d < c → (d = mo → msv j) → B'.1 d j = B.1 d j) ∧ (∀ d j, d < c → d ≠ mo → B'.2.1 d j = B.2.1 d j) ∧ (∀ d j, d < c → B'.2.2.1 d j = B.2.2.1 d j) ∧ (∀ d z, d < c → ¬ mscr d → B'.2.2.2.1 d z = B.2.2.2.1 d z) ∧ (∀ d z, d < c → ¬ mscr d → B'.2.2.2.2 d z = B.2.2.2.2 d z)
theorem scG_rfl {c : Nat} : scG c B B := ⟨fun _ _ _ _ => rfl, fun _ _ _ _ => rfl, fun _ _ _ => rfl, fun _ _ _ _ => rfl, fun _ _ _ _ => rfl⟩
theorem scG_sc {c : Nat} {B' : Bk} (h : sc B B') : scG c B B' := ⟨fun d j _ q => h.1 d j q, fun d j _ q => h.2.1 d j q, fun d j _ => by rw [h.2.2.1], fun d z _ q => h.2.2.2.1 d z q, fun d z _ q => h.2.2.2.2 d z q⟩
theorem scG_tr {c : Nat} {A C : Bk} (h : scG c A B) (g : scG c B C) : scG c A C := ⟨fun d j a b => (g.1 d j a b).trans (h.1 d j a b), fun d j a b => (g.2.1 d j a b).trans (h.2.1 d j a b), fun d j a => (g.2.2.1 d j a).trans (h.2.2.1 d j a), fun d z a b => (g.2.2.2.1 d z a b).trans (h.2.2.2.1 d z a b), fun d z a b => (g.2.2.2.2 d z a b).trans (h.2.2.2.2 d z a b)⟩
/-- a question that may make cells: k of them, with w places in all -/
def QG (E : Ev) (B : Bk) (k w : Nat) (f g : Hp → Option (Int32 × Hp)) : Prop := ∃ v E' B1 B2, f (St E B) = some (v, St E' B1) ∧ g (St E' B1) = some (v, St E' B2) ∧ Ex E E' ∧ E'.2.2.2.1 ≤ E.2.2.2.1 + k ∧ E'.2.2.2.2 ≤ E.2.2.2.2 + w ∧ scG E.2.2.2.1 B B2
end GR
