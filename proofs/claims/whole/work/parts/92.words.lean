/-! words: the class's by their signs, the reference's by a number -/
def wlT (T : Int → Int) (q : Int) (n : Nat) : List Int := (List.range n).map fun i : Nat => T (q + (i : Int))
def wdL (k : Nat) : List Int := (sByt.getD k []).map Int32.toInt
abbrev isW (T : Int → Int) (L q : Int) (k : Nat) : Prop := kdT T L q = 1 ∧ wlT T q (leT T L q - q).toNat = wdL k
theorem wl_eq {T : Int → Int} {q : Int} {n : Nat} {c : List Int} : wlT T q n = c ↔ n = c.length ∧ ∀ i : Nat, i < n → T (q + i) = c.getD i 0 := by
  constructor
  · rintro rfl
    refine ⟨by simp [wlT], fun i hi => ?_⟩
    simp [wlT, List.getD, hi]
  · rintro ⟨h1, h2⟩
    refine List.ext_getElem (by simp [wlT, h1]) (fun i h3 h4 => ?_)
    have := h2 i (by omega)
    simp only [wlT, List.getElem_map, List.getElem_range]
    rw [this]
    simp [List.getD, h4]
theorem sb_len : ∀ k, k < 28 → Int32.ofNat (sLen.getD k 0) = iI ((wdL k).length) ∧ (wdL k).length = sLen.getD k 0 ∧ (wdL k).length ≤ 6 := by decide +kernel
theorem sb_chr : ∀ k, k < 28 → ∀ j, j < sLen.getD k 0 → (sByt.getD k []).getD j 0 = iI ((wdL k).getD j 0) ∧ 97 ≤ (wdL k).getD j 0 ∧ (wdL k).getD j 0 ≤ 122 := by decide +kernel
/-- the text constants lie ahead of our cells -/
def STR (E : Ev) (K : Nat → Nat) : Prop := ∀ k, k < 28 → K k < E.1 ∧ (E.2.1 (K k)).1 = 40 ∧ (E.2.1 (K k)).2.1 = k
section WD
variable {E : Ev} {B : Bk} {K : Nat → Nat} {k : Nat}
theorem St_lo {x : Nat} (h : x < E.1) : (St E B).2.2 x = E.2.1 x := by
  unfold St
  simp only
  rw [if_pos h]
theorem j_len (S : STR E K) (hk : k < 28) : fJ0_length_8abf5 (K k) (St E B) = some (iI ((wdL k).length), St E B) := by
  obtain ⟨s1, s2, s3⟩ := S k hk
  unfold fJ0_length_8abf5
  rw [St_lo s1, s2, s3, if_pos ⟨rfl, hk⟩, (sb_len k hk).1]
theorem j_chr {j : Int} (S : STR E K) (hk : k < 28) (j0 : 0 ≤ j) (j1 : j < (wdL k).length) : fJ0_charAt_5068e (K k) (iI j) (St E B) = some (iI ((wdL k).getD j.toNat 0), St E B) := by
  obtain ⟨s1, s2, s3⟩ := S k hk
  obtain ⟨l1, l2, l3⟩ := sb_len k hk
  have cl := iI_cl (z := j) (n := sLen.getD k 0) j0 (by omega) (by omega)
  have e : (iI j).toNatClampNeg = j.toNat := by omega
  unfold fJ0_charAt_5068e
  rw [St_lo s1, s2, s3, if_pos ⟨rfl, hk, cl.1⟩, e, (sb_chr k hk j.toNat (by omega)).1]
/-- the reader's fields, its text, where it reads to -/
def rsF (L k p a b c v : Int) (j : Nat) (x : Int) : Int := if j = 0 then k else if j = 1 then p else if j = 3 then L else if j = 4 then a else if j = 5 then b else if j = 6 then c else if j = 7 then v else x
def rsW (T : Int → Int) (L : Int) (m : Nat) (B : Bk) (k p a b c v : Int) : Bk := (fun e j => if e = co + 2 then rsF L k p a b c v j (B.1 e j) else B.1 e j, B.2.1, fun e j => if e = co + 2 ∧ j = 2 then some (co + 1) else if e = co + 2 ∧ j = 9 then some m else B.2.2.1 e j, fun e z => if e = co + 1 then T z else B.2.2.2.1 e z, B.2.2.2.2)
variable {T : Int → Int} {L kk p a b c v x : Int} {m : Nat}
theorem rsW_0 : (rsW T L m B kk p a b c v).1 (co + 2) 0 = kk := by
  unfold rsW rsF
  simp
theorem rsW_1 : (rsW T L m B kk p a b c v).1 (co + 2) 1 = p := by
  unfold rsW rsF
  simp
theorem rsW_3 : (rsW T L m B kk p a b c v).1 (co + 2) 3 = L := by
  unfold rsW rsF
  simp
theorem rsW_4 : (rsW T L m B kk p a b c v).1 (co + 2) 4 = a := by
  unfold rsW rsF
  simp
theorem rsW_5 : (rsW T L m B kk p a b c v).1 (co + 2) 5 = b := by
  unfold rsW rsF
  simp
theorem rsW_6 : (rsW T L m B kk p a b c v).1 (co + 2) 6 = c := by
  unfold rsW rsF
  simp
theorem rsW_7 : (rsW T L m B kk p a b c v).1 (co + 2) 7 = v := by
  unfold rsW rsF
  simp
theorem rsW_8 : (rsW T L m B kk p a b c v).1 (co + 2) 8 = B.1 (co + 2) 8 := by
  unfold rsW rsF
  simp
theorem rsW_o {e j : Nat} (h : e ≠ co + 2) : (rsW T L m B kk p a b c v).1 e j = B.1 e j := by
  unfold rsW
  simp [h]
theorem rsW_2 : (rsW T L m B kk p a b c v).2.2.1 (co + 2) 2 = some (co + 1) := by
  unfold rsW
  simp
theorem rsW_9 : (rsW T L m B kk p a b c v).2.2.1 (co + 2) 9 = some m := by
  unfold rsW
  simp
theorem rsW_t : (rsW T L m B kk p a b c v).2.2.2.1 (co + 1) = T := by
  funext z
  unfold rsW
  simp
theorem rsW_r {e : Nat} (h : e ≠ co + 1) : (rsW T L m B kk p a b c v).2.2.2.1 e = B.2.2.2.1 e := by
  funext z
  unfold rsW
  simp [h]
theorem rsW_w0 : wI (rsW T L m B kk p a b c v) (co + 2) 0 x = rsW T L m B x p a b c v := by
  refine Prod.ext ?_ rfl
  funext e j
  show (if e = co + 2 ∧ j = 0 then x else if e = co + 2 then rsF L kk p a b c v j (B.1 e j) else B.1 e j) = (if e = co + 2 then rsF L x p a b c v j (B.1 e j) else B.1 e j)
  unfold rsF
  repeat' split
  all_goals first | rfl | (exfalso; omega)
theorem rsW_w1 : wI (rsW T L m B kk p a b c v) (co + 2) 1 x = rsW T L m B kk x a b c v := by
  refine Prod.ext ?_ rfl
  funext e j
  show (if e = co + 2 ∧ j = 1 then x else if e = co + 2 then rsF L kk p a b c v j (B.1 e j) else B.1 e j) = (if e = co + 2 then rsF L kk x a b c v j (B.1 e j) else B.1 e j)
  unfold rsF
  repeat' split
  all_goals first | rfl | (exfalso; omega)
theorem rsW_w8 : wI (rsW T L m B kk p a b c v) (co + 2) 8 x = rsW T L m (wI B (co + 2) 8 x) kk p a b c v := by
  refine Prod.ext ?_ rfl
  funext e j
  show (if e = co + 2 ∧ j = 8 then x else if e = co + 2 then rsF L kk p a b c v j (B.1 e j) else B.1 e j) = (if e = co + 2 then rsF L kk p a b c v j (if e = co + 2 ∧ j = 8 then x else B.1 e j) else if e = co + 2 ∧ j = 8 then x else B.1 e j)
  unfold rsF
  repeat' split
  all_goals first | rfl | (exfalso; omega)
theorem rsW_wo {e j : Nat} (h : e ≠ co + 2) : wI (rsW T L m B kk p a b c v) e j x = rsW T L m (wI B e j x) kk p a b c v := by
  refine Prod.ext ?_ rfl
  funext e' j'
  show (if e' = e ∧ j' = j then x else if e' = co + 2 then rsF L kk p a b c v j' (B.1 e' j') else B.1 e' j') = (if e' = co + 2 then rsF L kk p a b c v j' (if e' = e ∧ j' = j then x else B.1 e' j') else if e' = e ∧ j' = j then x else B.1 e' j')
  by_cases q : e' = co + 2
  · rw [if_neg (by omega), if_pos q, if_pos q, if_neg (by omega)]
  · rw [if_neg q, if_neg q]
theorem rsW_wA {e : Nat} {z : Int} (h : e ≠ co + 1) : wA (rsW T L m B kk p a b c v) e z x = rsW T L m (wA B e z x) kk p a b c v := by
  refine Prod.ext rfl (Prod.ext rfl (Prod.ext rfl (Prod.ext ?_ rfl)))
  funext e' z'
  show (if e' = e ∧ z' = z then x else if e' = co + 1 then T z' else B.2.2.2.1 e' z') = (if e' = co + 1 then T z' else if e' = e ∧ z' = z then x else B.2.2.2.1 e' z')
  by_cases q : e' = co + 1
  · rw [if_neg (by omega), if_pos q, if_pos q]
  · rw [if_neg q, if_neg q]
theorem rsW_tk {a' b' c' v' : Int} : tkW (rsW T L m B kk p a b c v) (co + 2) a' b' c' v' = rsW T L m B kk p a' b' c' v' := by
  refine Prod.ext ?_ rfl
  funext e j
  show (if e = co + 2 ∧ j = 4 then a' else if e = co + 2 ∧ j = 5 then b' else if e = co + 2 ∧ j = 6 then c' else if e = co + 2 ∧ j = 7 then v' else if e = co + 2 then rsF L kk p a b c v j (B.1 e j) else B.1 e j) = (if e = co + 2 then rsF L kk p a' b' c' v' j (B.1 e j) else B.1 e j)
  unfold rsF
  repeat' split
  all_goals first | rfl | (exfalso; omega)
/-- kinds that the reader needs -/
def RDK (E : Ev) (m : Nat) : Prop := KD E (co + 2) 3 10 ∧ KD E (co + 1) 22 1600 ∧ VK E m
theorem rsW_RD (h : RDK E m) (D : TB9 T L) : RD E (rsW T L m B kk p a b c v) (co + 2) (co + 1) L := by
  refine ⟨h.1, h.2.1, rsW_2, rsW_3, D.1, fun z z0 z1 => ?_⟩
  rw [rsW_t]
  exact D.2 z z0 z1
theorem s3_adv (h : RDK E m) (D : TB9 T L) (a0 : 0 ≤ a) (a1 : a ≤ L) : fX3_advance (E.1 + (co + 2)) (St E (rsW T L m B kk p a b c v)) = some (St E (rsW T L m B kk p (nxT T L (skT T L a)) (kdT T L (skT T L a)) (skT T L a) (vlT T L (skT T L a) v))) := by
  have e := s3_advance (b := b) (c := c) (d := v) (rsW_RD (B := B) (kk := kk) (p := p) (a := a) (b := b) (c := c) (v := v) h D) a0 a1
  rw [rsW_tk, rsW_tk, rsW_t] at e
  exact e
theorem s3_fail {f pl : Int} (h : RDK E m) (k0 : 0 ≤ kk ∧ kk ≤ 3) : fX3_fail (E.1 + (co + 2)) (iI f) (iI pl) (St E (rsW T L m B kk p a b c v)) = some (St E (rsW T L m B (if kk = 0 then f else kk) (if kk = 0 then pl else p) a b c v)) := by
  simp (disch := omega) only [fX3_fail, c3 h.1, g3_0 h.1, rsW_0, some_bind, iI_0, iI_eq, p3_0 h.1, rsW_w0, p3_1 h.1, rsW_w1]
  by_cases q : kk = 0
  · simp only [if_pos q]
  · simp only [if_neg q]
theorem leT_b {q : Int} (h : q ≤ L) : q ≤ leT T L q ∧ leT T L q ≤ L ∧ ∀ i, q ≤ i → i < leT T L q → 97 ≤ T i ∧ T i ≤ 122 := by
  obtain ⟨s1, s2, s3, -⟩ := lf_spec (fun z => ¬ (97 ≤ T z ∧ T z ≤ 122)) (L - q).toNat q
  unfold leT
  refine ⟨s1, by omega, fun i i0 i1 => Decidable.not_not.mp (s3 i i0 i1)⟩
theorem deT_b {q : Int} (h : q ≤ L) : q ≤ deT T L q ∧ deT T L q ≤ L ∧ ∀ i, q ≤ i → i < deT T L q → 48 ≤ T i ∧ T i ≤ 57 := by
  obtain ⟨s1, s2, s3, -⟩ := lf_spec (fun z => ¬ (48 ≤ T z ∧ T z ≤ 57)) (L - q).toNat q
  unfold deT
  refine ⟨s1, by omega, fun i i0 i1 => Decidable.not_not.mp (s3 i i0 i1)⟩
theorem kd1 {q : Int} (h : kdT T L q = 1) : q < L ∧ nxT T L q = leT T L q := by
  unfold kdT at h
  unfold nxT
  by_cases c1 : q < L
  · rw [if_pos c1] at h ⊢
    by_cases c2 : 97 ≤ T q ∧ T q ≤ 122
    · rw [if_pos c2]
      exact ⟨c1, rfl⟩
    · rw [if_neg c2] at h
      exfalso
      repeat' split at h
      all_goals omega
  · rw [if_neg c1] at h
    omega
theorem kdT_b {q : Int} : 0 ≤ kdT T L q ∧ kdT T L q ≤ 4 := by
  unfold kdT
  repeat' split
  all_goals omega
theorem s3_isWord {q : Int} (S : STR E K) (h : RDK E m) (D : TB9 T L) (q0 : 0 ≤ q) (q1 : q ≤ L) (hk : k < 28) : fX3_isWord (E.1 + (co + 2)) (K k) (St E (rsW T L m B kk p (nxT T L q) (kdT T L q) q v)) = some (iI (bI (isW T L q k)), St E (rsW T L m B kk p (nxT T L q) (kdT T L q) q v)) := by
  have g2 : gR (St E (rsW T L m B kk p (nxT T L q) (kdT T L q) q v)) (E.1 + (co + 2)) 3 2 = some (E.1 + (co + 1)) := g3_2 h.1 rsW_2
  have kb := kdT_b (T := T) (L := L) (q := q)
  have d3 := D.1
  obtain ⟨l1, l2, l3⟩ := sb_len k hk
  by_cases c1 : kdT T L q = 1
  · obtain ⟨c2, c3'⟩ := kd1 c1
    obtain ⟨b1, b2, b3⟩ := leT_b (T := T) q1
    by_cases c4 : leT T L q - q = (wdL k).length
    · obtain ⟨rr, f1, f2, f3⟩ := iter_lf (F := fX3_isWord_l28 (E.1 + (co + 2)) (K k)) (fun j a => a = (iI j, St E (rsW T L m B kk p (nxT T L q) (kdT T L q) q v))) (fun z => ¬ T (q + z) = (wdL k).getD z.toNat 0) (fun _ r' => r' = .inr (St E (rsW T L m B kk p (nxT T L q) (kdT T L q) q v))) (fun r' => r' = .inl (St E (rsW T L m B kk p (nxT T L q) (kdT T L q) q v))) 0 ((wdL k).length)
        (fun j a j0 j1 ha hp => by
          subst ha
          have bb := D.2 (q + j) (by omega) (by omega)
          have cc := sb_chr k hk j.toNat (by omega)
          refine ⟨_, ?_, rfl⟩
          simp (disch := omega) only [fX3_isWord_l28, j_len S hk, some_bind, iI_le, g2, g3_6 h.1, rsW_6, iI_add, aB_ok h.2.1, rsW_t, j_chr S hk j0 j1, iI_eq]
          rw [if_neg (by omega), if_pos (Decidable.not_not.mp hp)])
        (fun j a j0 j1 ha hp => by
          subst ha
          have bb := D.2 (q + j) (by omega) (by omega)
          have cc := sb_chr k hk j.toNat (by omega)
          refine ⟨_, ?_, rfl⟩
          simp (disch := omega) only [fX3_isWord_l28, j_len S hk, some_bind, iI_le, g2, g3_6 h.1, rsW_6, iI_add, aB_ok h.2.1, rsW_t, j_chr S hk j0 j1, iI_eq]
          rw [if_neg (by omega), if_neg hp])
        (fun a ha => by
          subst ha
          refine ⟨_, ?_, rfl⟩
          simp (disch := omega) only [fX3_isWord_l28, j_len S hk, some_bind, iI_le]
          rw [if_pos (by omega)]) (by omega) (N := FU) (by have := FU_big (n := ((wdL k).length : Int)) (by omega); omega) (a := (iI 0, St E (rsW T L m B kk p (nxT T L q) (kdT T L q) q v))) rfl
      obtain ⟨s1, s2, s3, s4⟩ := lf_spec (fun z => ¬ T (q + z) = (wdL k).getD z.toNat 0) (((wdL k).length : Int) - 0).toNat 0
      have nb := c3'
      simp (disch := omega) only [fX3_isWord, fX3_isWord_b24, c3 h.1, some_bind, g3_5 h.1, rsW_5, iI_eq, g3_4 h.1, rsW_4, g3_6 h.1, rsW_6, j_len S hk, iI_sub, f1]
      rw [if_pos c1, if_pos (by rw [c3']; exact c4)]
      by_cases q' : lf (fun z => ¬ T (q + z) = (wdL k).getD z.toNat 0) (((wdL k).length : Int) - 0).toNat 0 < (wdL k).length
      · have nw : ¬ isW T L q k := fun y => by
          obtain ⟨y1, y2⟩ := wl_eq.mp y.2
          have := s4 (by omega)
          refine this ?_
          have e := y2 (lf (fun z => ¬ T (q + z) = (wdL k).getD z.toNat 0) (((wdL k).length : Int) - 0).toNat 0).toNat (by omega)
          rw [show (((lf (fun z => ¬ T (q + z) = (wdL k).getD z.toNat 0) (((wdL k).length : Int) - 0).toNat 0).toNat : Nat) : Int) = lf (fun z => ¬ T (q + z) = (wdL k).getD z.toNat 0) (((wdL k).length : Int) - 0).toNat 0 by omega] at e
          exact e
        rw [f2 q', bI_f nw]
        rfl
      · have yw : isW T L q k := by
          refine ⟨c1, wl_eq.mpr ⟨by omega, fun i hi => ?_⟩⟩
          have := Decidable.not_not.mp (s3 i (by omega) (by omega))
          rw [Int.toNat_natCast] at this
          exact this
        rw [f3 q', bI_t yw]
        rfl
    · simp (disch := omega) only [fX3_isWord, fX3_isWord_b24, c3 h.1, some_bind, g3_5 h.1, rsW_5, iI_eq, g3_4 h.1, rsW_4, g3_6 h.1, rsW_6, j_len S hk, iI_sub, c3']
      rw [if_pos c1, if_neg c4, bI_f (fun y => by have := (wl_eq.mp y.2).1; omega)]
  · simp (disch := omega) only [fX3_isWord, fX3_isWord_b24, c3 h.1, some_bind, g3_5 h.1, rsW_5, iI_eq]
    rw [if_neg c1, bI_f (fun y => c1 y.1)]
end WD
/-! numbers of words -/
def gW (d : Nat → Int) : Nat → Int
  | 0 => 0
  | n + 1 => 27 * gW d n + d n - 96
theorem gW_0 {d : Nat → Int} : ∀ n : Nat, (∀ i, i < n → 97 ≤ d i) → 0 ≤ gW d n := by
  intro n
  induction n with
  | zero => intro _; exact Int.le_refl 0
  | succ n ih =>
    intro h
    have i := ih (fun i hi => h i (by omega))
    have b := h n (by omega)
    show 0 ≤ 27 * gW d n + d n - 96
    omega
theorem gW_inj {d e : Nat → Int} : ∀ n m : Nat, (∀ i, i < n → 97 ≤ d i ∧ d i ≤ 122) → (∀ i, i < m → 97 ≤ e i ∧ e i ≤ 122) → gW d n = gW e m → n = m ∧ ∀ i, i < n → d i = e i := by
  intro n
  induction n with
  | zero =>
    intro m _ he h
    cases m with
    | zero => exact ⟨rfl, fun i hi => by omega⟩
    | succ m =>
      have a := gW_0 (d := e) m (fun i hi => (he i (by omega)).1)
      have b := he m (by omega)
      have h' : (0 : Int) = 27 * gW e m + e m - 96 := h
      omega
  | succ n ih =>
    intro m hd he h
    have a1 := gW_0 (d := d) n (fun i hi => (hd i (by omega)).1)
    have b1 := hd n (by omega)
    cases m with
    | zero =>
      have h' : 27 * gW d n + d n - 96 = (0 : Int) := h
      omega
    | succ m =>
      have a := gW_0 (d := e) m (fun i hi => (he i (by omega)).1)
      have b := he m (by omega)
      have h' : 27 * gW d n + d n - 96 = 27 * gW e m + e m - 96 := h
      obtain ⟨e1, e2⟩ := ih m (fun i hi => hd i (by omega)) (fun i hi => he i (by omega)) (by omega)
      refine ⟨by omega, fun i hi => ?_⟩
      by_cases q : i = n
      · subst q
        subst e1
        omega
      · exact e2 i (by omega)
theorem gW_lt {d : Nat → Int} : ∀ n : Nat, n ≤ 12 → (∀ i, i < n → 97 ≤ d i ∧ d i ≤ 122) → 0 ≤ gW d n ∧ gW d n < 27 ^ n := by
  intro n
  induction n with
  | zero => intro _ _; exact ⟨Int.le_refl 0, by show (0 : Int) < 27 ^ 0; decide⟩
  | succ n ih =>
    intro hn h
    have i := ih (by omega) (fun i hi => h i (by omega))
    have b := h n (by omega)
    have e : (27 : Int) ^ (n + 1) = 27 ^ n * 27 := Int.pow_succ 27 n
    show 0 ≤ 27 * gW d n + d n - 96 ∧ 27 * gW d n + d n - 96 < 27 ^ (n + 1)
    rw [e]
    omega
theorem wrT_g {T : Int → Int} {q : Int} : ∀ n : Nat, n ≤ 12 → wrT T q n = gW (fun i => T (q + (i : Int))) n := by
  intro n
  induction n with
  | zero => intro _; rfl
  | succ n ih =>
    intro hn
    show (if 11 < (n : Int) then -1 else 27 * wrT T q n + T (q + (n : Int)) - 96) = 27 * gW (fun i => T (q + (i : Int))) n + T (q + (n : Int)) - 96
    rw [if_neg (by omega), ih (by omega)]
theorem wrT_m {T : Int → Int} {q : Int} {n : Nat} (h : 12 < n) : wrT T q n = -1 := by
  cases n with
  | zero => omega
  | succ n =>
    show (if 11 < (n : Int) then -1 else 27 * wrT T q n + T (q + (n : Int)) - 96) = -1
    rw [if_pos (by omega)]
def cdL (k : Nat) : Int := gW (fun i => (wdL k).getD i 0) (wdL k).length
theorem wd9_b {T : Int → Int} {L q : Int} (h : q ≤ L) : -1 ≤ wd9 T L q ∧ wd9 T L q < 9223372036854775808 := by
  unfold wd9
  by_cases c1 : kdT T L q = 1
  · rw [if_pos c1]
    obtain ⟨b1, b2, b3⟩ := leT_b (T := T) h
    by_cases c : (leT T L q - q).toNat ≤ 12
    · rw [wrT_g _ c]
      obtain ⟨g1, g2⟩ := gW_lt (d := fun i => T (q + (i : Int))) _ c (fun i hi => b3 (q + i) (by omega) (by omega))
      have e : ∀ n : Nat, n ≤ 12 → (27 : Int) ^ n ≤ 150094635296999121 := by decide
      have := e _ c
      omega
    · rw [wrT_m (by omega)]
      omega
  · rw [if_neg c1]
    omega
theorem is_iff {T : Int → Int} {L q : Int} {k : Nat} (h : q ≤ L) (hk : k < 28) (c1 : kdT T L q = 1) : wd9 T L q = cdL k ↔ isW T L q k := by
  obtain ⟨b1, b2, b3⟩ := leT_b (T := T) h
  obtain ⟨l1, l2, l3⟩ := sb_len k hk
  have ch : ∀ i, i < (wdL k).length → 97 ≤ (wdL k).getD i 0 ∧ (wdL k).getD i 0 ≤ 122 := fun i hi => (sb_chr k hk i (by omega)).2
  have c0 := gW_0 (d := fun i => (wdL k).getD i 0) (wdL k).length (fun i hi => (ch i hi).1)
  unfold wd9
  rw [if_pos c1]
  constructor
  · intro e
    refine ⟨c1, wl_eq.mpr ?_⟩
    by_cases c : (leT T L q - q).toNat ≤ 12
    · rw [wrT_g _ c] at e
      exact gW_inj _ _ (fun i hi => b3 (q + i) (by omega) (by omega)) ch e
    · rw [wrT_m (by omega)] at e
      unfold cdL at e
      omega
  · intro y
    obtain ⟨y1, y2⟩ := wl_eq.mp y.2
    rw [wrT_g _ (by omega), y1]
    unfold cdL
    have : ∀ n : Nat, n ≤ (wdL k).length → gW (fun i => T (q + (i : Int))) n = gW (fun i => (wdL k).getD i 0) n := by
      intro n
      induction n with
      | zero => intro _; rfl
      | succ n ih =>
        intro hn
        show 27 * gW (fun i => T (q + (i : Int))) n + T (q + (n : Int)) - 96 = 27 * gW (fun i => (wdL k).getD i 0) n + (wdL k).getD n 0 - 96
        rw [ih (by omega), y2 n (by omega)]
    exact this _ (Nat.le_refl _)
