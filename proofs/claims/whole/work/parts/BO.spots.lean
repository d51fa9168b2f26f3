/-! spots and columns: both answer alike -/
theorem smN_swap {f : Nat → Nat → Nat} {m : Nat} : ∀ n, smN (fun i => smN (fun j => f i j) m) n = smN (fun j => smN (fun i => f i j) n) m
  | 0 => by
    show 0 = smN (fun _ => 0) m
    have : ∀ m, smN (fun _ => 0) m = 0 := fun m => by
      induction m with
      | zero => rfl
      | succ m ih => show smN (fun _ => 0) m + 0 = 0; rw [ih]
    rw [this]
  | n + 1 => by
    show smN (fun i => smN (fun j => f i j) m) n + smN (fun j => f n j) m = smN (fun j => smN (fun i => f i j) n + f n j) m
    have : ∀ (g h : Nat → Nat) m, smN g m + smN h m = smN (fun j => g j + h j) m := fun g h m => by
      induction m with
      | zero => rfl
      | succ m ih =>
        show (smN g m + g m) + (smN h m + h m) = smN (fun j => g j + h j) m + (g m + h m)
        omega
    rw [smN_swap n, this]
theorem smN_8 {f : Nat → Nat} : ∀ k, smN f (8 * k) = smN (fun y => smN (fun x => f (8 * y + x)) 8) k
  | 0 => rfl
  | k + 1 => by
    show smN f (8 * k + 8) = smN (fun y => smN (fun x => f (8 * y + x)) 8) k + smN (fun x => f (8 * k + x)) 8
    rw [smN_add, smN_8 k]
theorem smN_cut {f : Nat → Nat} {a : Nat} : ∀ {n : Nat}, a ≤ n → (∀ i, a ≤ i → i < n → f i = 0) → smN f n = smN f a
  | 0, h, _ => by rw [show a = 0 by omega]
  | n + 1, h, z => by
    by_cases q : a = n + 1
    · rw [q]
    · show smN f n + f n = _
      rw [z n (by omega) (by omega), smN_cut (n := n) (by omega) (fun i h1 h2 => z i h1 (by omega))]
      rfl
/-- columns of a board, summed -/
theorem smN_board {f : Nat → Nat} {wd dp : Nat} (hw : wd ≤ 8) (hd : dp ≤ 8) (z : ∀ x y, x < 8 → y < 8 → ¬ (x < wd ∧ y < dp) → f (8 * y + x) = 0) : smN f 64 = smN (fun x => smN (fun y => f (8 * y + x)) dp) wd := by
  have e : smN f 64 = smN (fun y => smN (fun x => f (8 * y + x)) 8) 8 := smN_8 (f := f) 8
  rw [e, smN_cut (a := dp) hd (fun y y0 y1 => by
    have : ∀ m, m ≤ 8 → smN (fun x => f (8 * y + x)) m = 0 := fun m hm => by
      induction m with
      | zero => rfl
      | succ m ih =>
        show smN (fun x => f (8 * y + x)) m + f (8 * y + m) = 0
        rw [ih (by omega), z m y (by omega) y1 (by omega)]
    exact this 8 (by omega)), ← smN_swap]
  refine smN_cut (a := wd) hw (fun x x0 x1 => ?_)
  have : ∀ m, m ≤ dp → smN (fun y => f (8 * y + x)) m = 0 := fun m hm => by
    induction m with
    | zero => rfl
    | succ m ih =>
      show smN (fun y => f (8 * y + x)) m + f (8 * m + x) = 0
      rw [ih (by omega), z x m x1 (by omega) (by omega)]
  exact this dp (Nat.le_refl _)
theorem onN_cg {a b : Bool} (h : a = true ↔ b = true) : onN a = onN b := by
  unfold onN
  by_cases q : a = true
  · rw [if_pos q, if_pos (h.mp q)]
  · rw [if_neg q, if_neg (fun w => q (h.mpr w))]
theorem onN_0 {a : Bool} (h : ¬ a = true) : onN a = 0 := by
  unfold onN
  rw [if_neg h]
theorem smN_pos {p : Nat → Bool} : ∀ {n : Nat}, (smN (fun l => onN (p l)) n = 0 ↔ ¬ ∃ l, l < n ∧ p l = true)
  | 0 => ⟨fun _ ⟨l, h, _⟩ => by omega, fun _ => rfl⟩
  | n + 1 => by
    show smN (fun l => onN (p l)) n + onN (p n) = 0 ↔ _
    have ih := smN_pos (p := p) (n := n)
    constructor
    · rintro h ⟨l, h1, h2⟩
      by_cases e : l = n
      · subst e
        unfold onN at h
        rw [if_pos h2] at h
        omega
      · exact ih.mp (by omega) ⟨l, by omega, h2⟩
    · intro h
      rw [ih.mpr (fun ⟨l, h1, h2⟩ => h ⟨l, by omega, h2⟩), onN_0 (fun w => h ⟨n, by omega, w⟩)]
section SPT2
variable {E : Ev} {B C : Bk} {n d : Nat}
theorem anyS_P {V : Vy} {cnt F G x y l : Nat} {P : StP} {X : Bk} {s : Hp} (hF : F ≤ 9) (hG : G ≤ 9) (x0 : (x : Int) < V.1 1) (y0 : (y : Int) < V.1 2) (l0 : (l : Int) < V.1 3) (R : RfS E B V cnt F G P X s) : anyS X (x : Int) (y : Int) (l : Int) = true ↔ ∃ s u, P (y * 8 + x) l s u 0 := by
  obtain ⟨r1, r2, r3, r4, r5, r6, r7⟩ := R
  unfold anyS
  rw [anyN_t]
  constructor
  · rintro ⟨f, f1, f2⟩
    obtain ⟨-, u, w⟩ := (gaJ_P r3.2.1 hG r6 r7 x0 y0 l0 (by omega)).mp f2
    exact ⟨_, u, w⟩
  · rintro ⟨s, u, w⟩
    have b := r7 _ _ _ _ _ w
    exact ⟨F - s, by omega, (gaJ_P r3.2.1 hG r6 r7 x0 y0 l0 (by omega)).mpr ⟨by omega, u, by rw [show F - (F - s) = s by omega]; exact w⟩⟩
theorem m_freely {V : Vy} {S G L k c0 h q : Nat} (rm : mKd E mo) (P0 : MP (plnM B) V) (N : RN V (q : Int) S G L k) (hc0 : scV V (q : Int) = (c0 : Int)) (hh : (h : Int) < V.1 4) : ∃ s' X', fX9_freely (E.1 + mo) (iI (q : Int)) (iI (h : Int)) (St E B) = some s' ∧ RfS E B V 0 S G (P0t V S G L c0 (h + 1)) X' s' := by
  have N' := N
  obtain ⟨hV, i0, eS, eG, eL, hk, hS, hG⟩ := N'
  have v4 := hV.2.2.2.1
  obtain ⟨s1, X1, a1, a2⟩ := m_start0 rm P0 N hc0
  obtain ⟨z, e1, X', e2⟩ := iter_acc (F := fX9_freely_l10 (E.1 + mo) (iI (h : Int))) (fun j a => ∃ s' X', a = (iI (j : Int), s') ∧ RfS E B V 0 S G (P0t V S G L c0 j) X' s') (h + 1) (fun s' => ∃ X', RfS E B V 0 S G (P0t V S G L c0 (h + 1)) X' s')
    (fun j a hj ha => by
      obtain ⟨s', X', rfl, e2⟩ := ha
      obtain ⟨s2, X2, g1, g2⟩ := m_step0 rm hS hG (show (j : Int) < V.1 4 by omega) e2
      refine ⟨(iI ((j + 1 : Nat) : Int), s2), ?_, s2, X2, rfl, g2⟩
      unfold fX9_freely_l10
      dsimp only
      rw [if_neg (by rw [iI_lt (by omega) (by omega) (by omega) (by omega)]; omega), g1, some_bind, iI_add]
      rfl)
    (fun a ha => by
      obtain ⟨s', X', rfl, e2⟩ := ha
      refine ⟨s', ?_, X', e2⟩
      unfold fX9_freely_l10
      dsimp only
      rw [if_pos (by rw [iI_lt (by omega) (by omega) (by omega) (by omega)]; omega)]) (N := FU) (by show h + 1 < 1000000; omega) (a := (iI 0, s1)) ⟨s1, X1, rfl, a2⟩
  refine ⟨z, X', ?_, e2⟩
  unfold fX9_freely
  rw [c9 rm.1, some_bind, a1, some_bind, e1, some_bind]
/-- some sand, by the class's cells -/
def hiN (B : Bk) (r h l c : Nat) : Bool := anyN (fun f => hiR B r (h : Int) (l : Int) c (f : Int)) 10
theorem hiN_P {V : Vy} {i : Int} {r S G L k c0 h l c : Nat} (N : RN V i S G L k) (hc0 : scV V i = (c0 : Int)) (cl : CLI B r V S G L c0 (V.1 4).toNat) (hh : (h : Int) < V.1 4) (hl : l < 5) (hc : c < 64) : hiN B r h l c = true ↔ ∃ s u, P0t V S G L c0 (h + 1) c l s u 0 := by
  have v4 := N.1.2.2.2.1
  have hS := N.2.2.2.2.2.2.1
  unfold hiN
  rw [anyN_t]
  constructor
  · rintro ⟨f, f1, f2⟩
    obtain ⟨-, u, w⟩ := (cl h l f c (by omega) hl f1 hc).mp f2
    exact ⟨f, u, w⟩
  · rintro ⟨s, u, w⟩
    have b := P0_b N hc0 (by omega) w
    exact ⟨s, by omega, (cl h l s c (by omega) hl (by omega) hc).mpr ⟨by omega, u, w⟩⟩
theorem s2_cols {r h l : Nat} (kd : KD E r 2 5) (ke : KD E (r + 1) 21 1200) (hh : h < 24) (hl : l < 5) : ∃ x, fX2_columnsAt (E.1 + r) (iI (h : Int)) (iI (l : Int)) (St E B) = some (x, St E B) ∧ ∀ i, i < 64 → tb x i = hiN B r h l i := by
  obtain ⟨x, e1, e2⟩ := s2_columnsAt (E := E) (B := B) (d := r) (h := (h : Int)) (l := (l : Int)) kd ke (by omega) (by omega)
  refine ⟨x, e1, fun i hi => ?_⟩
  have := e2 i hi
  unfold hiN
  cases e : tb x i
  · cases e' : anyN (fun f => hiR B r (h : Int) (l : Int) i (f : Int)) 10
    · rfl
    · rw [anyN_t] at e'
      have := this.mpr e'
      rw [e] at this
      cases this
  · exact (anyN_t.mpr (this.mp e)).symm
theorem s8_spotsL {r h k : Nat} (rc : KD E co 8 13) (rn : B.2.2.1 co 7 = some n) (rk : VK E n) (kd : KD E r 2 5) (ke : KD E (r + 1) 21 1200) (hh : h < 24) (hk : B.1 n 3 = (k : Int)) (k5 : k ≤ 5) : iter (fX8_spots_l24 (E.1 + co) (iI (h : Int)) (E.1 + r)) FU (iI 0, iI 0, St E B) = some (iI ((smN (fun l => smN (fun i => onN (hiN B r h l i)) 64) k : Nat) : Int), St E B) := by
  have bd : ∀ j, smN (fun l => smN (fun i => onN (hiN B r h l i)) 64) j ≤ j * 64 := fun j => smN_le (fun l => by
    have := smN_le (p := fun i => onN (hiN B r h l i)) (c := 1) (fun i => by unfold onN; split <;> omega) 64
    omega) j
  obtain ⟨z, e1, rfl⟩ := iter_acc (F := fX8_spots_l24 (E.1 + co) (iI (h : Int)) (E.1 + r)) (fun j a => a = (iI ((smN (fun l => smN (fun i => onN (hiN B r h l i)) 64) j : Nat) : Int), iI (j : Int), St E B)) k (fun q => q = (iI ((smN (fun l => smN (fun i => onN (hiN B r h l i)) 64) k : Nat) : Int), St E B))
    (fun j a hj ha => by
      subst ha
      obtain ⟨x, g1, g2⟩ := s2_cols (B := B) (l := j) kd ke hh (by omega)
      have pe : popJ x = smN (fun i => onN (hiN B r h j i)) 64 := by
        unfold popJ
        exact smN_cg (fun i hi => by rw [g2 i hi])
      refine ⟨_, ?_, rfl⟩
      unfold fX8_spots_l24
      dsimp only
      rw [g8_7 rc rn, some_bind, g6_3 rk.1, some_bind, hk, if_neg (by rw [iI_le (by omega) (by omega) (by omega) (by omega)]; omega), g1, some_bind]
      dsimp only
      rw [j13_bitCount, some_bind, pe]
      unfold lt_
      dsimp only
      rw [iI_add, iI_add]
      rfl)
    (fun a ha => by
      subst ha
      refine ⟨_, ?_, rfl⟩
      unfold fX8_spots_l24
      dsimp only
      rw [g8_7 rc rn, some_bind, g6_3 rk.1, some_bind, hk, if_pos (by rw [iI_le (by omega) (by omega) (by omega) (by omega)]; omega)]) (N := FU) (by show k < 1000000; omega) (a := (iI 0, iI 0, St E B)) rfl
  exact e1
theorem s8_colsL {r h k : Nat} (rc : KD E co 8 13) (rn : B.2.2.1 co 7 = some n) (rk : VK E n) (kd : KD E r 2 5) (ke : KD E (r + 1) 21 1200) (hh : h < 24) (hk : B.1 n 3 = (k : Int)) (k5 : k ≤ 5) : ∃ x, iter (fX8_columns_l24 (E.1 + co) (iI (h : Int)) (E.1 + r)) FU (0, iI 0, St E B) = some (x, St E B) ∧ ∀ i, i < 64 → (tb x i = true ↔ ∃ l, l < k ∧ hiN B r h l i = true) := by
  obtain ⟨z, e1, x, rfl, e2⟩ := iter_acc (F := fX8_columns_l24 (E.1 + co) (iI (h : Int)) (E.1 + r)) (fun j a => ∃ x, a = (x, iI (j : Int), St E B) ∧ ∀ i, i < 64 → (tb x i = true ↔ ∃ l, l < j ∧ hiN B r h l i = true)) k (fun q => ∃ x, q = (x, St E B) ∧ ∀ i, i < 64 → (tb x i = true ↔ ∃ l, l < k ∧ hiN B r h l i = true))
    (fun j a hj ha => by
      obtain ⟨x, rfl, e2⟩ := ha
      obtain ⟨x2, g1, g2⟩ := s2_cols (B := B) (l := j) kd ke hh (by omega)
      refine ⟨(x ||| x2, iI ((j + 1 : Nat) : Int), St E B), ?_, _, rfl, fun i hi => ?_⟩
      · unfold fX8_columns_l24
        dsimp only
        rw [g8_7 rc rn, some_bind, g6_3 rk.1, some_bind, hk, if_neg (by rw [iI_le (by omega) (by omega) (by omega) (by omega)]; omega), g1, some_bind]
        unfold lt_
        dsimp only
        rw [iI_add]
        rfl
      · rw [tb_or, Bool.or_eq_true, e2 i hi, g2 i hi]
        constructor
        · rintro (⟨l, h1, h2⟩ | w)
          · exact ⟨l, by omega, h2⟩
          · exact ⟨j, by omega, w⟩
        · rintro ⟨l, h1, h2⟩
          by_cases e : l = j
          · exact Or.inr (e ▸ h2)
          · exact Or.inl ⟨l, by omega, h2⟩)
    (fun a ha => by
      obtain ⟨x, rfl, e2⟩ := ha
      refine ⟨(x, St E B), ?_, x, rfl, e2⟩
      unfold fX8_columns_l24
      dsimp only
      rw [g8_7 rc rn, some_bind, g6_3 rk.1, some_bind, hk, if_pos (by rw [iI_le (by omega) (by omega) (by omega) (by omega)]; omega)]) (N := FU) (by show k < 1000000; omega) (a := (0, iI 0, St E B)) ⟨0, rfl, fun i hi => by
      rw [tb_0]
      constructor
      · intro w
        cases w
      · rintro ⟨l, h1, -⟩
        omega⟩
  exact ⟨x, e1, e2⟩
end SPT2
