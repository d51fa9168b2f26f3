/-! lasts: both answer alike -/
def gtP (Q : Nat → Prop) (r : Int) : Prop := (r = -1 ∧ ∀ s, ¬ Q s) ∨ ∃ s : Nat, r = (s : Int) ∧ Q s ∧ ∀ s', s < s' → ¬ Q s'
theorem gtP_u {Q : Nat → Prop} {r r' : Int} (h : gtP Q r) (g : gtP Q r') : r = r' := by
  rcases h with ⟨h1, h2⟩ | ⟨s, h1, h2, h3⟩ <;> rcases g with ⟨g1, g2⟩ | ⟨t, g1, g2, g3⟩
  · omega
  · exact absurd g2 (h2 t)
  · exact absurd h2 (g2 s)
  · rcases Nat.lt_trichotomy s t with q | q | q
    · exact absurd g2 (h3 t q)
    · omega
    · exact absurd h2 (g3 s q)
/-- one hour more: w is whether it is of Q -/
theorem gtP_n {Q : Nat → Prop} {j : Nat} {r : Int} {w : Prop} (h : gtP (fun s => s < j ∧ Q s) r) (e : w ↔ Q j) : (w → gtP (fun s => s < j + 1 ∧ Q s) (j : Int)) ∧ (¬ w → gtP (fun s => s < j + 1 ∧ Q s) r) := by
  refine ⟨fun q => Or.inr ⟨j, rfl, ⟨by omega, e.mp q⟩, fun s' h1 h2 => by omega⟩, fun q => ?_⟩
  rcases h with ⟨h1, h2⟩ | ⟨s, h1, h2, h3⟩
  · exact Or.inl ⟨h1, fun s ⟨a, b⟩ => by
      by_cases c : s = j
      · subst c
        exact q (e.mpr b)
      · exact h2 s ⟨by omega, b⟩⟩
  · exact Or.inr ⟨s, h1, ⟨by omega, h2.2⟩, fun s' a ⟨b, c⟩ => by
      by_cases c2 : s' = j
      · subst c2
        exact q (e.mpr c)
      · exact h3 s' a ⟨by omega, c⟩⟩
/-- loops that stop when a flag is set -/
theorem iter_flag {σ : Type} {F : (Int32 × Int32 × σ) → Option ((Int32 × Int32 × σ) ⊕ (Int32 × σ))} (I : σ → Prop) (p : Nat → Prop) (m : Nat) (h0 : ∀ (j : Nat) s, j < m → I s → ∃ s' b, F (iI 0, iI (j : Int), s) = some (.inl (iI b, iI ((j + 1 : Nat) : Int), s')) ∧ I s' ∧ ((b = 0 ∧ ¬ p j) ∨ (b = 1 ∧ p j))) (h1 : ∀ (j : Nat) s, j ≤ m → I s → F (iI 1, iI (j : Int), s) = some (.inr (iI 1, s))) (h2 : ∀ s, I s → F (iI 0, iI (m : Int), s) = some (.inr (iI 0, s))) : ∀ (k i : Nat) (N : Nat) (s : σ), i + k = m → k + 1 < N → I s → ∃ s' b, iter F N (iI 0, iI (i : Int), s) = some (iI b, s') ∧ I s' ∧ ((b = 0 ∧ ∀ j, i ≤ j → j < m → ¬ p j) ∨ (b = 1 ∧ ∃ j, i ≤ j ∧ j < m ∧ p j)) := by
  intro k
  induction k with
  | zero =>
    intro i N s e hN hs
    have e' : i = m := by omega
    subst e'
    exact ⟨s, 0, iter_r (h2 s hs) (by omega), hs, Or.inl ⟨rfl, fun j a b => by omega⟩⟩
  | succ k ih =>
    intro i N s e hN hs
    obtain ⟨s', b, g1, g2, g3⟩ := h0 i s (by omega) hs
    obtain ⟨M, rfl⟩ : ∃ M, N = M + 1 := ⟨N - 1, by omega⟩
    rcases g3 with ⟨rfl, g3⟩ | ⟨rfl, g3⟩
    · obtain ⟨s2, b2, e1, e2, e3⟩ := ih (i + 1) M s' (by omega) (by omega) g2
      refine ⟨s2, b2, by rw [iter_l g1]; exact e1, e2, ?_⟩
      rcases e3 with ⟨rfl, e3⟩ | ⟨rfl, j, a1, a2, a3⟩
      · exact Or.inl ⟨rfl, fun j a b => by
          by_cases c : j = i
          · rw [c]
            exact g3
          · exact e3 j (by omega) b⟩
      · exact Or.inr ⟨rfl, j, by omega, a2, a3⟩
    · refine ⟨s', 1, ?_, g2, Or.inr ⟨rfl, i, by omega, by omega, g3⟩⟩
      rw [iter_l g1]
      exact iter_r (h1 (i + 1) s' (by omega) g2) (by omega)
section LSS
variable {E : Ev} {B C : Bk} {n d : Nat}
theorem m_num {V : Vy} {cnt F G : Nat} {P : StP} {X : Bk} {s : Hp} (rm : mKd E mo) (R : RfS E B V cnt F G P X s) : gR s (E.1 + mo) 9 17 = some (E.1 + (mo + 7)) ∧ aI s (E.1 + (mo + 7)) (iI 0) = some (iI (V.1 1)) ∧ aI s (E.1 + (mo + 7)) (iI 1) = some (iI (V.1 2)) ∧ aI s (E.1 + (mo + 7)) (iI 2) = some (iI (V.1 3)) := by
  have nm := MP_num R.2.2.1
  obtain ⟨a, b0⟩ := m_hours (k := 0) rm R (by omega) rfl
  obtain ⟨-, b1⟩ := m_hours (k := 1) rm R (by omega) rfl
  obtain ⟨-, b2⟩ := m_hours (k := 2) rm R (by omega) rfl
  exact ⟨a, by rw [← nm.1]; exact b0, by rw [← nm.2.1]; exact b1, by rw [← nm.2.2.1]; exact b2⟩
theorem m_lasts3 {V : Vy} {cnt F G x y k : Nat} {P : StP} {X : Bk} {s : Hp} {x2 x3 : Int32} (rm : mKd E mo) (hV : VOK V) (hF : F ≤ 9) (hG : G ≤ 9) (hk : V.1 3 = (k : Int)) (x0 : (x : Int) < V.1 1) (y0 : (y : Int) < V.1 2) (R : RfS E B V cnt F G P X s) : ∃ s' b, iter (fX9_lasts_l87 (E.1 + mo) x2 x3 (iI (x : Int)) (iI (y : Int))) FU (iI 0, iI 1, s) = some (iI b, s') ∧ RfS E B V cnt F G P X s' ∧ ((b = 0 ∧ ∀ l, 1 ≤ l → l < k → ¬ ∃ t u, P (y * 8 + x) l t u 0) ∨ (b = 1 ∧ ∃ l, 1 ≤ l ∧ l < k ∧ ∃ t u, P (y * 8 + x) l t u 0)) := by
  have v3 := hV.2.2.1
  refine iter_flag (F := fX9_lasts_l87 (E.1 + mo) x2 x3 (iI (x : Int)) (iI (y : Int))) (fun s => RfS E B V cnt F G P X s) (fun l => ∃ t u, P (y * 8 + x) l t u 0) k (fun j s hj hs => ?_) (fun j s hj hs => ?_) (fun s hs => ?_) (k - 1) 1 FU s (by omega) (by show k - 1 + 1 < 1000000; omega) R
  · obtain ⟨n1, -, -, n2⟩ := m_num rm hs
    obtain ⟨s3, r3, g3, g4, g5⟩ := m_mL (x := x) (y := y) (l := j) rm hF hG x0 y0 (by omega) hs
    have nb := mLP_neg g5
    by_cases q : r3 = -1
    · refine ⟨s3, 0, ?_, g4, Or.inl ⟨rfl, fun ⟨t, u, w⟩ => nb.2.mp q t u w⟩⟩
      unfold fX9_lasts_l87 fX9_lasts_b122
      dsimp only
      rw [n1, some_bind, n2, some_bind, if_neg (by rw [iI_le (by omega) (by omega) (by omega) (by omega)]; omega), if_pos (by decide), g3, some_bind, if_pos (by rw [q]), iI_add]
      rfl
    · refine ⟨s3, 1, ?_, g4, Or.inr ⟨rfl, ?_⟩⟩
      · unfold fX9_lasts_l87 fX9_lasts_b122
        dsimp only
        rw [n1, some_bind, n2, some_bind, if_neg (by rw [iI_le (by omega) (by omega) (by omega) (by omega)]; omega), if_pos (by decide), g3, some_bind, if_neg (fun w => q ((iI_eq (by omega) (by omega) (by omega) (by omega)).mp w)), iI_add]
        rfl
      · rcases g5 with ⟨a, -⟩ | ⟨t, -, -, ⟨u, w⟩, -⟩
        · exact absurd a q
        · exact ⟨t, u, w⟩
  · obtain ⟨n1, -, -, n2⟩ := m_num rm hs
    unfold fX9_lasts_l87
    dsimp only
    rw [n1, some_bind, n2, some_bind, if_neg (show ¬ iI 1 = 0 by decide)]
    split <;> rfl
  · obtain ⟨n1, -, -, n2⟩ := m_num rm hs
    unfold fX9_lasts_l87
    dsimp only
    rw [n1, some_bind, n2, some_bind, if_pos (by rw [iI_le (by omega) (by omega) (by omega) (by omega)]; omega)]
theorem m_lasts2 {V : Vy} {cnt F G x k dp : Nat} {P : StP} {X : Bk} {s : Hp} {x2 x3 : Int32} (rm : mKd E mo) (hV : VOK V) (hF : F ≤ 9) (hG : G ≤ 9) (hk : V.1 3 = (k : Int)) (hd : V.1 2 = (dp : Int)) (x0 : (x : Int) < V.1 1) (R : RfS E B V cnt F G P X s) : ∃ s' b, iter (fX9_lasts_l68 (E.1 + mo) x2 x3 (iI (x : Int))) FU (iI 0, iI 0, s) = some (iI b, s') ∧ RfS E B V cnt F G P X s' ∧ ((b = 0 ∧ ∀ y, 0 ≤ y → y < dp → ¬ ∃ l, 1 ≤ l ∧ l < k ∧ ∃ t u, P (y * 8 + x) l t u 0) ∨ (b = 1 ∧ ∃ y, 0 ≤ y ∧ y < dp ∧ ∃ l, 1 ≤ l ∧ l < k ∧ ∃ t u, P (y * 8 + x) l t u 0)) := by
  have v2 := hV.2.1
  refine iter_flag (F := fX9_lasts_l68 (E.1 + mo) x2 x3 (iI (x : Int))) (fun s => RfS E B V cnt F G P X s) (fun y => ∃ l, 1 ≤ l ∧ l < k ∧ ∃ t u, P (y * 8 + x) l t u 0) dp (fun j s hj hs => ?_) (fun j s hj hs => ?_) (fun s hs => ?_) dp 0 FU s (by omega) (by show dp + 1 < 1000000; omega) R
  · obtain ⟨n1, -, n2, -⟩ := m_num rm hs
    obtain ⟨s3, b, g3, g4, g5⟩ := m_lasts3 (x := x) (y := j) (x2 := x2) (x3 := x3) rm hV hF hG hk x0 (by omega) hs
    refine ⟨s3, b, ?_, g4, ?_⟩
    · unfold fX9_lasts_l68 fX9_lasts_b130
      dsimp only
      rw [n1, some_bind, n2, some_bind, if_neg (by rw [iI_le (by omega) (by omega) (by omega) (by omega)]; omega), if_pos (by decide), g3, some_bind, iI_add]
      rfl
    · rcases g5 with ⟨a, w⟩ | ⟨a, w⟩
      · exact Or.inl ⟨a, fun ⟨l, l1, l2, w2⟩ => w l l1 l2 w2⟩
      · exact Or.inr ⟨a, w⟩
  · obtain ⟨n1, -, n2, -⟩ := m_num rm hs
    unfold fX9_lasts_l68
    dsimp only
    rw [n1, some_bind, n2, some_bind, if_neg (show ¬ iI 1 = 0 by decide)]
    split <;> rfl
  · obtain ⟨n1, -, n2, -⟩ := m_num rm hs
    unfold fX9_lasts_l68
    dsimp only
    rw [n1, some_bind, n2, some_bind, if_pos (by rw [iI_le (by omega) (by omega) (by omega) (by omega)]; omega)]
theorem m_lasts1 {V : Vy} {cnt F G k dp wd : Nat} {P : StP} {X : Bk} {s : Hp} {x2 x3 : Int32} (rm : mKd E mo) (hV : VOK V) (hF : F ≤ 9) (hG : G ≤ 9) (hk : V.1 3 = (k : Int)) (hd : V.1 2 = (dp : Int)) (hw : V.1 1 = (wd : Int)) (R : RfS E B V cnt F G P X s) : ∃ s' b, iter (fX9_lasts_l49 (E.1 + mo) x2 x3) FU (iI 0, iI 0, s) = some (iI b, s') ∧ RfS E B V cnt F G P X s' ∧ ((b = 0 ∧ ∀ x, 0 ≤ x → x < wd → ¬ ∃ y, 0 ≤ y ∧ y < dp ∧ ∃ l, 1 ≤ l ∧ l < k ∧ ∃ t u, P (y * 8 + x) l t u 0) ∨ (b = 1 ∧ ∃ x, 0 ≤ x ∧ x < wd ∧ ∃ y, 0 ≤ y ∧ y < dp ∧ ∃ l, 1 ≤ l ∧ l < k ∧ ∃ t u, P (y * 8 + x) l t u 0)) := by
  have v1 := hV.1
  refine iter_flag (F := fX9_lasts_l49 (E.1 + mo) x2 x3) (fun s => RfS E B V cnt F G P X s) (fun x => ∃ y, 0 ≤ y ∧ y < dp ∧ ∃ l, 1 ≤ l ∧ l < k ∧ ∃ t u, P (y * 8 + x) l t u 0) wd (fun j s hj hs => ?_) (fun j s hj hs => ?_) (fun s hs => ?_) wd 0 FU s (by omega) (by show wd + 1 < 1000000; omega) R
  · obtain ⟨n1, n2, -, -⟩ := m_num rm hs
    obtain ⟨s3, b, g3, g4, g5⟩ := m_lasts2 (x := j) (x2 := x2) (x3 := x3) rm hV hF hG hk hd (by omega) hs
    refine ⟨s3, b, ?_, g4, ?_⟩
    · unfold fX9_lasts_l49 fX9_lasts_b136
      dsimp only
      rw [n1, some_bind, n2, some_bind, if_neg (by rw [iI_le (by omega) (by omega) (by omega) (by omega)]; omega), if_pos (by decide), g3, some_bind, iI_add]
      rfl
    · rcases g5 with ⟨a, w⟩ | ⟨a, w⟩
      · exact Or.inl ⟨a, fun ⟨y, y1, y2, w2⟩ => w y y1 y2 w2⟩
      · exact Or.inr ⟨a, w⟩
  · obtain ⟨n1, n2, -, -⟩ := m_num rm hs
    unfold fX9_lasts_l49
    dsimp only
    rw [n1, some_bind, n2, some_bind, if_neg (show ¬ iI 1 = 0 by decide)]
    split <;> rfl
  · obtain ⟨n1, n2, -, -⟩ := m_num rm hs
    unfold fX9_lasts_l49
    dsimp only
    rw [n1, some_bind, n2, some_bind, if_pos (by rw [iI_le (by omega) (by omega) (by omega) (by omega)]; omega)]
/-- aloft behind hour h -/
def alQ (V : Vy) (S G L c0 h : Nat) : Prop := ∃ c l t u, 1 ≤ l ∧ P0t V S G L c0 (h + 1) c l t u 0
theorem m_lastsRun {V : Vy} {S G L k c0 q : Nat} {X : Bk} {s : Hp} (rm : mKd E mo) (N : RN V (q : Int) S G L k) (hc0 : scV V (q : Int) = (c0 : Int)) (R : RfS E B V 0 S G (P0t V S G L c0 0) X s) : ∃ s' X' r, iter (fX9_lasts_l28 (E.1 + mo)) FU (iI (-1), iI 0, s) = some (iI r, s') ∧ RfS E B V 0 S G (P0t V S G L c0 (V.1 4).toNat) X' s' ∧ gtP (fun h => h < (V.1 4).toNat ∧ alQ V S G L c0 h) r := by
  have N' := N
  obtain ⟨hV, i0, eS, eG, eL, hk, hS, hG⟩ := N'
  have v1 := hV.1
  have v2 := hV.2.1
  have v4 := hV.2.2.2.1
  obtain ⟨wd, hwd⟩ : ∃ wd : Nat, V.1 1 = (wd : Int) := ⟨(V.1 1).toNat, by omega⟩
  obtain ⟨dp, hdp⟩ : ∃ dp : Nat, V.1 2 = (dp : Int) := ⟨(V.1 2).toNat, by omega⟩
  obtain ⟨z, e1, r, s', X', rfl, e2, e3⟩ := iter_acc (F := fX9_lasts_l28 (E.1 + mo)) (fun j a => ∃ r s' X', a = (iI r, iI (j : Int), s') ∧ RfS E B V 0 S G (P0t V S G L c0 j) X' s' ∧ gtP (fun h => h < j ∧ alQ V S G L c0 h) r) (V.1 4).toNat (fun q => ∃ r s' X', q = (iI r, s') ∧ RfS E B V 0 S G (P0t V S G L c0 (V.1 4).toNat) X' s' ∧ gtP (fun h => h < (V.1 4).toNat ∧ alQ V S G L c0 h) r)
    (fun j a hj ha => by
      have nl : ¬ iI (V.1 4) ≤ iI (j : Int) := by rw [iI_le (by omega) (by omega) (by omega) (by omega)]; omega
      obtain ⟨r, s', X', rfl, e2, e3⟩ := ha
      obtain ⟨h1, h2⟩ := m_hour3 rm e2
      obtain ⟨s2, X2, g1, g2⟩ := m_step0 rm hS hG (show (j : Int) < V.1 4 by omega) e2
      obtain ⟨s3, b, g3, g4, g5⟩ := m_lasts1 (x2 := iI r) (x3 := iI (j : Int)) rm hV hS hG hk hdp hwd g2
      have key : b = 1 ↔ alQ V S G L c0 j := by
        constructor
        · intro e
          rcases g5 with ⟨a, w⟩ | ⟨a, x, -, -, y, -, -, l, l1, l2, t, u, w⟩
          · omega
          · exact ⟨_, l, t, u, l1, w⟩
        · rintro ⟨c, l, t, u, l1, w⟩
          rcases g5 with ⟨a, w2⟩ | ⟨a, -⟩
          · exfalso
            have ck := P0_c N hc0 (by omega) w
            have bb := P0_b N hc0 (by omega) w
            unfold cOK at ck
            exact w2 (c % 8) (by omega) (by omega) ⟨c / 8, by omega, by omega, l, l1, bb.2.1, t, u, by rw [show c / 8 * 8 + c % 8 = c by omega]; exact w⟩
          · exact a
      have gn := gtP_n (Q := alQ V S G L c0) e3 key
      have b01 : b = 0 ∨ b = 1 := by rcases g5 with ⟨a, -⟩ | ⟨a, -⟩; exact Or.inl a; exact Or.inr a
      rcases b01 with b0 | b1
      · refine ⟨(iI r, iI ((j + 1 : Nat) : Int), s3), ?_, r, s3, X2, rfl, g4, gn.2 (by omega)⟩
        unfold fX9_lasts_l28 fX9_lasts_b142 fX9_lasts_b152
        dsimp only
        rw [h1, some_bind, h2, some_bind, if_neg nl, g1, some_bind, g3, some_bind, b0]
        dsimp only
        rw [if_pos (by decide), iI_add]
        rfl
      · refine ⟨(iI (j : Int), iI ((j + 1 : Nat) : Int), s3), ?_, _, s3, X2, rfl, g4, gn.1 b1⟩
        unfold fX9_lasts_l28 fX9_lasts_b142 fX9_lasts_b152
        dsimp only
        rw [h1, some_bind, h2, some_bind, if_neg nl, g1, some_bind, g3, some_bind, b1]
        dsimp only
        rw [if_neg (by decide), iI_add]
        rfl)
    (fun a ha => by
      obtain ⟨r, s', X', rfl, e2, e3⟩ := ha
      obtain ⟨h1, h2⟩ := m_hour3 rm e2
      refine ⟨(iI r, s'), ?_, r, s', X', rfl, e2, e3⟩
      unfold fX9_lasts_l28
      dsimp only
      rw [h1, some_bind, h2, some_bind, if_pos (by rw [iI_le (by omega) (by omega) (by omega) (by omega)]; omega)]) (N := FU) (by show (V.1 4).toNat < 1000000; omega) (a := (iI (-1), iI 0, s)) ⟨-1, s, X, rfl, R, Or.inl ⟨rfl, fun h ⟨a, _⟩ => by omega⟩⟩
  exact ⟨s', X', r, e1, e2, e3⟩
/-- the class's layers of an hour -/
theorem s8_lasts1 {r h k : Nat} {a : Int32} (rc : KD E co 8 13) (rn : B.2.2.1 co 7 = some n) (rk : VK E n) (kd : KD E r 2 5) (ke : KD E (r + 1) 21 1200) (hh : h < 24) (hk : B.1 n 3 = (k : Int)) (k2 : 2 ≤ k) (k5 : k ≤ 5) : ∃ b, iter (fX8_lasts_l40 (E.1 + co) (E.1 + r) (iI (h : Int))) FU (a, iI 1, St E B) = some (b, St E B) ∧ ((b = a ∧ ∀ l, 1 ≤ l → l < k → ∀ i, i < 64 → ¬ hiN B r h l i = true) ∨ (b = iI (h : Int) ∧ ∃ l, 1 ≤ l ∧ l < k ∧ ∃ i, i < 64 ∧ hiN B r h l i = true)) := by
  obtain ⟨z, e1, b, rfl, e2⟩ := iter_acc (F := fX8_lasts_l40 (E.1 + co) (E.1 + r) (iI (h : Int))) (fun j q => ∃ b, q = (b, iI ((1 + j : Nat) : Int), St E B) ∧ ((b = a ∧ ∀ l, 1 ≤ l → l < 1 + j → ∀ i, i < 64 → ¬ hiN B r h l i = true) ∨ (b = iI (h : Int) ∧ ∃ l, 1 ≤ l ∧ l < 1 + j ∧ ∃ i, i < 64 ∧ hiN B r h l i = true))) (k - 1) (fun q => ∃ b, q = (b, St E B) ∧ ((b = a ∧ ∀ l, 1 ≤ l → l < k → ∀ i, i < 64 → ¬ hiN B r h l i = true) ∨ (b = iI (h : Int) ∧ ∃ l, 1 ≤ l ∧ l < k ∧ ∃ i, i < 64 ∧ hiN B r h l i = true)))
    (fun j q hj ha => by
      obtain ⟨b, rfl, e2⟩ := ha
      obtain ⟨x, g1, g2⟩ := s2_cols (B := B) (l := 1 + j) kd ke hh (by omega)
      have hd : fX8_lasts_l40 (E.1 + co) (E.1 + r) (iI (h : Int)) (b, iI ((1 + j : Nat) : Int), St E B) = if lg_cmp x 0 = 0 then some (.inl (b, iI ((1 + (j + 1) : Nat) : Int), St E B)) else some (.inl (iI (h : Int), iI ((1 + (j + 1) : Nat) : Int), St E B)) := by
        unfold fX8_lasts_l40 fX8_lasts_b68
        dsimp only
        rw [g8_7 rc rn, some_bind, g6_3 rk.1, some_bind, hk, if_neg (by rw [iI_le (by omega) (by omega) (by omega) (by omega)]; omega), g1, some_bind, iI_add, show ((1 + j : Nat) : Int) + 1 = ((1 + (j + 1) : Nat) : Int) by omega]
      rw [hd]
      by_cases q : x = 0
      · rw [if_pos ((lg_cmp_eq _ _).mpr q)]
        refine ⟨_, rfl, b, rfl, ?_⟩
        rcases e2 with ⟨a1, a2⟩ | ⟨a1, l, l1, l2, a3⟩
        · refine Or.inl ⟨a1, fun l l1 l2 i hi w => ?_⟩
          by_cases e : l = 1 + j
          · rw [e, ← g2 i hi, q, tb_0] at w
            cases w
          · exact a2 l l1 (by omega) i hi w
        · exact Or.inr ⟨a1, l, l1, by omega, a3⟩
      · rw [if_neg (fun w => q ((lg_cmp_eq _ _).mp w))]
        obtain ⟨i, i1, i2⟩ := tb_nz q
        rw [g2 i i1] at i2
        exact ⟨_, rfl, iI (h : Int), rfl, Or.inr ⟨rfl, 1 + j, by omega, by omega, i, i1, i2⟩⟩)
    (fun q ha => by
      obtain ⟨b, rfl, e2⟩ := ha
      rw [show 1 + (k - 1) = k by omega] at e2 ⊢
      refine ⟨(b, St E B), ?_, b, rfl, e2⟩
      unfold fX8_lasts_l40
      dsimp only
      rw [g8_7 rc rn, some_bind, g6_3 rk.1, some_bind, hk, if_pos (by rw [iI_le (by omega) (by omega) (by omega) (by omega)]; omega)]) (N := FU) (by show k - 1 < 1000000; omega) (a := (a, iI 1, St E B)) ⟨a, rfl, Or.inl ⟨rfl, fun l l1 l2 => by omega⟩⟩
  exact ⟨b, e1, e2⟩
theorem s8_lastsRun {V : Vy} {r S G L k c0 q : Nat} (rc : KD E co 8 13) (rn : B.2.2.1 co 7 = some n) (rk : VK E n) (kd : KD E r 2 5) (ke : KD E (r + 1) 21 1200) (N : RN V (q : Int) S G L k) (hc0 : scV V (q : Int) = (c0 : Int)) (cl : CLI B r V S G L c0 (V.1 4).toNat) (ev : ∀ j, B.1 n j = V.1 j) : ∃ v, iter (fX8_lasts_l25 (E.1 + co) (E.1 + r)) FU (iI (-1), iI 0, St E B) = some (iI v, St E B) ∧ gtP (fun h => h < (V.1 4).toNat ∧ alQ V S G L c0 h) v := by
  have N' := N
  obtain ⟨hV, i0, eS, eG, eL, hk, hS, hG⟩ := N'
  have v3 := hV.2.2.1
  have v4 := hV.2.2.2.1
  obtain ⟨z, e1, v, rfl, e2⟩ := iter_acc (F := fX8_lasts_l25 (E.1 + co) (E.1 + r)) (fun j a => ∃ v, a = (iI v, iI (j : Int), St E B) ∧ gtP (fun h => h < j ∧ alQ V S G L c0 h) v) (V.1 4).toNat (fun q => ∃ v, q = (iI v, St E B) ∧ gtP (fun h => h < (V.1 4).toNat ∧ alQ V S G L c0 h) v)
    (fun j a hj ha => by
      have nl : ¬ iI (V.1 4) ≤ iI (j : Int) := by rw [iI_le (by omega) (by omega) (by omega) (by omega)]; omega
      obtain ⟨v, rfl, e2⟩ := ha
      obtain ⟨b, g1, g2⟩ := s8_lasts1 (B := B) (n := n) (r := r) (h := j) (k := k) (a := iI v) rc rn rk kd ke (by omega) (by rw [ev]; exact hk) (by omega) (by omega)
      have key : (∃ l, 1 ≤ l ∧ l < k ∧ ∃ i, i < 64 ∧ hiN B r j l i = true) ↔ alQ V S G L c0 j := by
        constructor
        · rintro ⟨l, l1, l2, i, hi, w⟩
          obtain ⟨t, u, w⟩ := (hiN_P N hc0 cl (by omega) (by omega) hi).mp w
          exact ⟨i, l, t, u, l1, w⟩
        · rintro ⟨c, l, t, u, l1, w⟩
          have bb := P0_b N hc0 (by omega) w
          exact ⟨l, l1, bb.2.1, c, bb.1, (hiN_P N hc0 cl (by omega) (by omega) bb.1).mpr ⟨t, u, w⟩⟩
      have gn := gtP_n (Q := alQ V S G L c0) e2 key
      rcases g2 with ⟨rfl, a2⟩ | ⟨rfl, a2⟩
      · refine ⟨(iI v, iI ((j + 1 : Nat) : Int), St E B), ?_, v, rfl, gn.2 (fun ⟨l, l1, l2, i, hi, w⟩ => a2 l l1 l2 i hi w)⟩
        unfold fX8_lasts_l25
        dsimp only
        rw [g8_7 rc rn, some_bind, g6_4 rk.1, some_bind, ev, if_neg nl, g1, some_bind, iI_add]
        rfl
      · refine ⟨(iI (j : Int), iI ((j + 1 : Nat) : Int), St E B), ?_, _, rfl, gn.1 a2⟩
        unfold fX8_lasts_l25
        dsimp only
        rw [g8_7 rc rn, some_bind, g6_4 rk.1, some_bind, ev, if_neg nl, g1, some_bind, iI_add]
        rfl)
    (fun a ha => by
      obtain ⟨v, rfl, e2⟩ := ha
      refine ⟨(iI v, St E B), ?_, v, rfl, e2⟩
      unfold fX8_lasts_l25
      dsimp only
      rw [g8_7 rc rn, some_bind, g6_4 rk.1, some_bind, ev, if_pos (by rw [iI_le (by omega) (by omega) (by omega) (by omega)]; omega)]) (N := FU) (by show (V.1 4).toNat < 1000000; omega) (a := (iI (-1), iI 0, St E B)) ⟨-1, rfl, Or.inl ⟨rfl, fun h ⟨a, _⟩ => by omega⟩⟩
  exact ⟨v, e1, e2⟩
theorem o_lasts {s : Int} (Q : RQ E B n d) (hs : i32 s) : QM E B n d (fX8_lasts (E.1 + co) (iI s)) (fX9_lasts (E.1 + mo) (iI s)) := by
  have Q' := Q
  obtain ⟨R, ⟨hn, hd⟩, -⟩ := Q'
  have R' := R
  obtain ⟨⟨rc, rn, rk, rm⟩, rw1, -⟩ := R'
  have rw2 := rw1
  obtain ⟨w0, w1, w2, w3, w4, -, -, -, w8, -⟩ := rw2
  by_cases gd : 0 ≤ s ∧ s < B.1 n 8
  · obtain ⟨s0, s1⟩ := gd
    obtain ⟨q, rfl⟩ : ∃ q : Nat, s = (q : Int) := ⟨s.toNat, by omega⟩
    have hst : 0 < B.1 n 0 := RV_hst R (Or.inl (by omega))
    obtain ⟨S, G, L, k, c0, N, hc0, h4⟩ := rv_RN R hst s1
    obtain ⟨C, f1, f2, f3, f4, -⟩ := s8_reachOf Q hst s1
    have evC : vyN C n = vyN B n := ltF_vy f2 (by omega)
    have Rc := f3.1
    have en : ∀ j, C.1 n j = B.1 n j := fun j => by rw [f2.1 n (by omega)]
    have KR := f3.2.2.2.2.1.2.2 q h4
    have cl := CLV_at f4 N hc0
    have R0 := rv_0 Rc (show n < 58 by omega)
    have ev0 : vyN (wI C mo 0 0) n = vyN C n := vyN_eq (fun j => w0n (by omega) j) (fun _ _ _ _ => rfl)
    have P0 := MP_rv R0 hn (by rw [w0n (by omega), en]; exact hst)
    rw [ev0, evC] at P0
    obtain ⟨s1', X1, g1, g2⟩ := m_start0 rm P0 N hc0
    obtain ⟨s2, X2, r, g3, g4, g5⟩ := m_lastsRun rm N hc0 g2
    obtain ⟨v, g6, g7⟩ := s8_lastsRun (B := C) (n := n) (r := d + 7 + 4 * q) rc Rc.1.2.1 rk KR.1 KR.2.1 N hc0 cl en
    have er : r = v := gtP_u g5 g7
    obtain ⟨D, rfl, sD⟩ := RfS_end g4
    refine ⟨iI v, C, D, ?_, ?_, f2, sc_tr (sc_I (by unfold msv; omega)) sD, f3⟩
    · unfold fX8_lasts
      rw [c8 rc, some_bind, g8_7 rc rn, some_bind, s_hasShop hs rk rw1, some_bind]
      dsimp only
      rw [if_neg (fun w => (bI_0.mp w) ⟨s0, s1⟩), f1, some_bind]
      dsimp only
      rw [g6, some_bind]
    · unfold fX9_lasts
      rw [c9 rm.1, some_bind, p9_0 rm.1, some_bind, rg_isShop Rc hn hs, some_bind]
      dsimp only
      rw [if_neg (fun w => (bI_0.mp w) ⟨s0, by rw [en]; exact s1⟩), g1, some_bind, g3, some_bind, er]
  · refine QM_no Q (v := iI (-2)) ?_ ?_
    · unfold fX8_lasts
      rw [c8 rc, some_bind, g8_7 rc rn, some_bind, s_hasShop hs rk rw1, some_bind]
      dsimp only
      rw [if_pos (bI_0.mpr gd)]
    · unfold fX9_lasts
      rw [c9 rm.1, some_bind, p9_0 rm.1, some_bind, rg_isShop R hn hs, some_bind]
      dsimp only
      rw [if_pos (bI_0.mpr gd)]
end LSS
