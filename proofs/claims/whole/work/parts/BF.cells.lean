/-! the class's Roamer: the cells that a shop can reach, hour by hour -/
/-- the set after so many hours from h0 on -/
def Pt (V : Vy) (S G : Nat) (U : Nat → Nat → Nat → Nat) (h0 : Nat) (P0 : StP) : Nat → StP
  | 0 => P0
  | j + 1 => Sx V S G U (j + h0) (Pt V S G U h0 P0 j)
def iP (c0 L m0 : Nat) : StP := fun c l s u m => c = c0 ∧ l = L ∧ s = 0 ∧ u = 0 ∧ m = m0
def U0 : Nat → Nat → Nat → Nat := fun _ _ t => t
section CLS
variable {E : Ev} {B : Bk} {d p r S G L n T c0 : Nat} {V : Vy} {ed : Int → Int64} {k i : Int} {A : StF} {U : Nat → Nat → Nat → Nat}
theorem cgV_0 : cgV V ((0 : Nat) : Int) = 0 := by
  unfold cgV
  split
  · exact Int.zero_ediv _
  · rfl
theorem iP_PB {m0 : Nat} (ok : cOK (V.1 1) (V.1 2) (c0 : Int)) (hL : L < n) (hm : m0 < T) : PB V S G n T L 0 (iP c0 L m0) := by
  rintro c l s u m ⟨rfl, rfl, rfl, rfl, rfl⟩
  have := cgV_0 (V := V)
  refine ⟨ok, hL, by omega, by omega, hm, by omega, ?_, ?_⟩
  · rw [this]
    unfold hiL
    omega
  · unfold hiL
    omega
theorem Pt_PB {P0 : StP} (hV : VOK V) (hn : V.1 3 = (n : Int)) (hU : ∀ l c m, l < n → c < 64 → m < T → U l c m < T) (h0 : PB V S G n T L 0 P0) : ∀ {j : Nat}, (j : Int) ≤ V.1 4 → PB V S G n T L j (Pt V S G U 0 P0 j)
  | 0, _ => h0
  | j + 1, hj => Sx_PB hV hn (by omega) hU (Pt_PB hV hn hU h0 (by omega))
theorem RC_eg (c : RC B d p r V ed S G L T k) : ∀ w : Int, 0 ≤ w → w < 5 → ∀ i : Nat, i < 64 → (tb (ed w) i = true ↔ cOK (V.1 1) (V.1 2) (i : Int) ∧ crX (V.1 1) (V.1 2) (i : Int) w = (i : Int)) := fun w w0 w1 i hi => by
  have := c.2.2.2.2.1.2.2 w w0 w1 i hi
  rw [show d + 2 + 1 = d + 3 from rfl, c.2.2.2.2.1.1] at this
  rw [this]
  constructor
  · exact fun q => q.2
  · exact fun q => ⟨hi, q⟩
theorem stA0_bR (k4 : ¬ k = 4) (hc : scV V i = (c0 : Int)) (h64 : c0 < 64) : bR S G n T (stA0 V i k L) (iP c0 L 0) := by
  intro c l s u m hs hu hl hm hc'
  unfold stA0 iP
  by_cases q : s = 0 ∧ u = 0 ∧ l = L ∧ m = 0
  · rw [if_pos q, if_neg k4, hc, tb_one h64 hc', decide_eq_true_eq]
    constructor
    · exact fun w => ⟨w, q.2.2.1, q.1, q.2.1, q.2.2.2⟩
    · exact fun w => w.1
  · rw [if_neg q, tb_0]
    constructor
    · intro w
      cases w
    · exact fun w => absurd ⟨w.2.2.1, w.2.2.2.1, w.2.1, w.2.2.2.2⟩ q
theorem scV_b (N : RN V i S G L n) : ∃ c0 : Nat, scV V i = (c0 : Int) ∧ c0 < 64 ∧ cOK (V.1 1) (V.1 2) (c0 : Int) ∧ L < n := by
  obtain ⟨hV, i0, eS, eG, eL, hn, hS, hG⟩ := N
  have sb := hV.2.2.2.2.2.2.2.2.2.2.1 i i0.1 i0.2
  have v1 := hV.1
  have v2 := hV.2.1
  have ok : cOK (V.1 1) (V.1 2) (scV V i) := cOK_xy sb.1.1 sb.1.2 sb.2.1.1 sb.2.1.2 v1.2
  have c64 := cOK_64 ok v1.2 v2.2
  exact ⟨(scV V i).toNat, by omega, by omega, by rw [show (((scV V i).toNat : Nat) : Int) = scV V i by omega]; exact ok, by omega⟩
/-- cells told by now: those of hours below j -/
def CLI (B : Bk) (r : Nat) (V : Vy) (S G L c0 j : Nat) : Prop := ∀ h l s c : Nat, h < 24 → l < 5 → s < 10 → c < 64 → (hiR B r (h : Int) (l : Int) c (s : Int) = true ↔ h < j ∧ ∃ u, Pt V S G U0 0 (iP c0 L 0) (h + 1) c l s u 0)
theorem s4_cellsRun {x3 : Int32} (R : RE E d p r) (N : RN V i S G L n) (hc0 : scV V i = (c0 : Int)) (c : RC B d p r V ed S G L 1 0) (hA : stR B d S G n 1 (stA0 V i 0 L)) (hz : ∀ z : Int, 0 ≤ z → z < 1200 → B.2.2.2.2 (r + 1) z = 0) : ∃ C, iter (fX4_cellsOf_l39 (E.1 + d) (E.1 + p) x3) FU (iI 0, St E B) = some (St E C) ∧ (nF d r B C ∧ C.2.2.2.1 = B.2.2.2.1) ∧ RC C d p r V ed S G L 1 0 ∧ CLI C r V S G L c0 (V.1 4).toNat := by
  obtain ⟨c0', hc0', c64, cok, hL⟩ := scV_b N
  have ec : c0' = c0 := by omega
  subst ec
  obtain ⟨hV, i0, eS, eG, eL, hn, hS, hG⟩ := N
  have v3 := hV.2.2.1
  have v4 := hV.2.2.2.1
  have eg := RC_eg c
  have hU : ∀ l c m, l < n → c < 64 → m < 1 → U0 l c m < 1 := fun l c m _ _ h => h
  have pb : ∀ {j : Nat}, (j : Int) ≤ V.1 4 → PB V S G n 1 L j (Pt V S G U0 0 (iP c0' L 0) j) := fun hj => Pt_PB hV hn hU (iP_PB cok hL (by omega)) hj
  obtain ⟨z, e1, C, rfl, f1, w1⟩ := iter_acc (F := fX4_cellsOf_l39 (E.1 + d) (E.1 + p) x3) (fun j a => ∃ C, a = (iI (j : Int), St E C) ∧ (nF d r B C ∧ C.2.2.2.1 = B.2.2.2.1) ∧ CLI C r V S G L c0' j ∧ ∃ A, stR C d S G n 1 A ∧ bR S G n 1 A (Pt V S G U0 0 (iP c0' L 0) j)) (V.1 4).toNat (fun q => ∃ C, q = St E C ∧ (nF d r B C ∧ C.2.2.2.1 = B.2.2.2.1) ∧ CLI C r V S G L c0' (V.1 4).toNat)
    (fun j a hj ha => by
      obtain ⟨C, rfl, ⟨f1, f1'⟩, w1, A, s1, b1⟩ := ha
      have cc := RC_nF R f1 c
      have pj := pb (j := j) (by omega)
      have pn := pb (j := j + 1) (by omega)
      have hb := hr_bits (U := U0) (k := 0) hV hn (by omega) (by decide) eg pj b1
      obtain ⟨C', g1, g2, g3, g4⟩ := s4_passHour (h := j) (A := A) R cc hV hn hL hS hG (by omega) (NT_plain (B0 := C) R hn (by omega) hS hG (by omega)) (fun D B C f w => SdP_ro R f w) s1 ⟨rfl, fun _ _ => rfl, fun l s cc' hl hs hc' => by
        have := w1 j l s cc' (by omega) hl hs hc'
        constructor
        · intro w
          have := this.mp w
          omega
        · rintro ⟨u, w, -⟩
          exact absurd w (fun q => q)⟩
      refine ⟨(iI ((j + 1 : Nat) : Int), St E C'), ?_, C', rfl, ⟨nF_tr f1 g2, g4.1.trans f1'⟩, fun h l s cc' hh hl hs hc' => ?_, _, g3, hb⟩
      · unfold fX4_cellsOf_l39
        dsimp only
        rw [g6_4 R.2.1.1, some_bind, RC_v cc, if_neg (by rw [iI_le (by omega) (by omega) (by omega) (by omega)]; omega), g1, some_bind, iI_add]
        rfl
      · unfold hiR
        by_cases q : h = j
        · subst q
          rw [g4.2.2 l s cc' hl hs hc']
          constructor
          · rintro ⟨u, a1, a2⟩
            obtain ⟨-, d1, d2, d3, d4, d5, d6⟩ := a1
            exact ⟨by omega, u, (hb cc' l s u 0 d1 d2 d4 (by omega) hc').mp a2⟩
          · rintro ⟨-, u, w⟩
            have b := pn _ _ _ _ _ w
            have cn := cgV_n (h := h) hV (by omega)
            refine ⟨u, ⟨trivial, b.2.2.1, b.2.2.2.1, b.2.2.2.2.2.1, b.2.1, ?_, b.2.2.2.2.2.2.2⟩, (hb cc' l s u 0 b.2.2.1 b.2.2.2.1 b.2.1 (by omega) hc').mpr w⟩
            have b7 := b.2.2.2.2.2.2.1
            have cb : coolV V (h : Int) = 0 ∨ coolV V (h : Int) = 1 := bI_01
            unfold lnL loL
            split <;> omega
        · rw [g4.2.1 (pc2 (h : Int) (l : Int) (s : Int)) (fun l' s' hl' hs' => by unfold pc2; omega)]
          rw [show tb (C.2.2.2.2 (r + 1) (pc2 (h : Int) (l : Int) (s : Int))) cc' = hiR C r (h : Int) (l : Int) cc' (s : Int) from rfl, w1 h l s cc' hh hl hs hc']
          constructor
          · exact fun w => ⟨by omega, w.2⟩
          · exact fun w => ⟨by omega, w.2⟩)
    (fun a ha => by
      obtain ⟨C, rfl, ⟨f1, f1'⟩, w1, -⟩ := ha
      have cc := RC_nF R f1 c
      refine ⟨St E C, ?_, C, rfl, ⟨f1, f1'⟩, w1⟩
      unfold fX4_cellsOf_l39
      dsimp only
      rw [g6_4 R.2.1.1, some_bind, RC_v cc, if_pos (by rw [iI_le (by omega) (by omega) (by omega) (by omega)]; omega)]) (N := FU) (by show (V.1 4).toNat < 1000000; omega) (a := (iI 0, St E B)) ⟨B, rfl, ⟨nF_rfl, rfl⟩, fun h l s c hh hl hs hc => by
      have := pc2_b (h := (h : Int)) (l := (l : Int)) (f := (s : Int)) (by omega) (by omega) (by omega)
      unfold hiR
      rw [hz _ this.1 this.2, tb_0]
      constructor
      · intro w
        cases w
      · intro w
        omega, stA0 V i 0 L, hA, stA0_bR (by decide) hc0 c64⟩
  exact ⟨C, e1, f1, RC_nF R f1.1 c, w1⟩
end CLS
