/-! the class's Roamer with what it keeps: tours of a shop -/
def TUS (B : Bk) (r : Nat) (V : Vy) (S G L c0 H : Nat) : Prop := tuK B r ∧ ∀ m : Nat, m < 32 → mnP (tuT B r (m : Int)) 99 (fun y => ∃ h c l s u m', h ≤ H ∧ (m' < 32 ∧ m &&& m' = m) ∧ Pt V S G (upD V) 0 (iP c0 L (upD V L c0 0)) h c l s u m' ∧ y = (s : Int)) ∧ mnP (tuH B r (m : Int)) 99 (fun y => ∃ h c l s u m', h ≤ H ∧ (m' < 32 ∧ m &&& m' = m) ∧ Pt V S G (upD V) 0 (iP c0 L (upD V L c0 0)) h c l s u m' ∧ y = (h : Int) - 1)
def TUV (B : Bk) (r : Nat) (V : Vy) (i : Int) : Prop := ∃ S G L n c0, RN V i S G L n ∧ scV V i = ((c0 : Nat) : Int) ∧ TUS B r V S G L c0 (V.1 4).toNat
def toF (d r : Nat) (B C : Bk) : Prop := (∀ e j, e ≠ d → ¬ (e = r ∧ j = 4) → C.1 e j = B.1 e j) ∧ (∀ e j, ¬ (e = d + 2 ∧ j = 1) → C.2.1 e j = B.2.1 e j) ∧ (∀ e j, e ≠ d → C.2.2.1 e j = B.2.2.1 e j) ∧ (∀ e, e ≠ r + 2 → e ≠ r + 3 → C.2.2.2.1 e = B.2.2.2.1 e) ∧ ∀ e, e ≠ d + 1 → e ≠ d + 3 → C.2.2.2.2 e = B.2.2.2.2 e
section TUO
variable {E : Ev} {B : Bk} {d p r S G L n q c0 : Nat} {V : Vy} {era : Int}
theorem spO_mn {f f0 : Int → Int} {Q : Nat → Int → Prop} {m : Nat} (h : spO 0 f f0) (hm : m < 32) (g : ∀ m' : Nat, m' < 32 → mnP (f0 (m' : Int)) 99 (Q m')) : mnP (f (m : Int)) 99 (fun y => ∃ m' : Nat, (m' < 32 ∧ m &&& m' = m) ∧ Q m' y) := by
  obtain ⟨m', a1, a2, a3⟩ := h.1 m hm
  refine ⟨?_, ?_, fun y w => ?_⟩
  · rw [a3]
    rcases (g m' a1).1 with w | w
    · exact Or.inl w
    · exact Or.inr ⟨m', ⟨a1, a2⟩, w⟩
  · have := h.2.1 (m : Int)
    have := (g m hm).2.1
    omega
  · obtain ⟨m2, ⟨b1, b2⟩, b3⟩ := w
    have := spO_le h hm b1 b2
    have := (g m2 b1).2.2 y b3
    omega
theorem TUS_sp {C : Bk} {H : Nat} (t : TSI B r V S G L c0 H) (k : tuK C r) (s1 : spO 0 (tuT C r) (tuT B r)) (s2 : spO 0 (tuH C r) (tuH B r)) : TUS C r V S G L c0 H := by
  refine ⟨k, fun m hm => ⟨mnP_iff (spO_mn s1 hm (fun m' hm' => (t.2 m' hm').1)) (fun z => ?_), mnP_iff (spO_mn s2 hm (fun m' hm' => (t.2 m' hm').2)) (fun z => ?_)⟩⟩
  · constructor
    · rintro ⟨h, c, l, s, u, m', a1, a2, a3, a4⟩
      exact ⟨m', a2, h, c, l, s, u, a1, a3, a4⟩
    · rintro ⟨m', a2, h, c, l, s, u, a1, a3, a4⟩
      exact ⟨h, c, l, s, u, m', a1, a2, a3, a4⟩
  · constructor
    · rintro ⟨h, c, l, s, u, m', a1, a2, a3, a4⟩
      exact ⟨m', a2, h, c, l, s, u, a1, a3, a4⟩
    · rintro ⟨m', a2, h, c, l, s, u, a1, a3, a4⟩
      exact ⟨h, c, l, s, u, m', a1, a2, a3, a4⟩
theorem TUV_row {C : Bk} {r : Nat} {i : Int} (e2 : C.2.2.2.1 (r + 2) = B.2.2.2.1 (r + 2)) (e3 : C.2.2.2.1 (r + 3) = B.2.2.2.1 (r + 3)) (h : TUV B r V i) : TUV C r V i := by
  obtain ⟨S, G, L, n, c0, h1, h2, h3⟩ := h
  refine ⟨S, G, L, n, c0, h1, h2, ?_⟩
  unfold TUS tuK tuT tuH at *
  rw [e2, e3]
  exact h3
theorem TSI_0 {A : StF} {T n : Nat} {C : Bk} {hh : Int} (hb : bR S G n T A (iP c0 L 0)) (T0 : 1 ≤ T ∧ T ≤ 32) (hL : L < n) (c64 : c0 < 64) (hm0 : upD V L c0 0 < T) (k : tuK C r) (hz : ∀ z : Int, 0 ≤ z → z < 32 → tuT B r z = 99 ∧ tuH B r z = 99) (e6 : ∀ m : Nat, m < 32 → tuT C r (m : Int) = (if m < T ∧ ¬ ntU (upD V) T L (A 0 0 L) m = 0 then min (tuT B r (m : Int)) ((0 : Nat) : Int) else tuT B r (m : Int)) ∧ tuH C r (m : Int) = (if m < T ∧ ¬ ntU (upD V) T L (A 0 0 L) m = 0 then min (tuH B r (m : Int)) (-1) else tuH B r (m : Int))) : TSI C r V S G L c0 0 := by
  have sb := start_bR (U := upD V) hb T0.1 hL
  have key : ∀ m : Nat, (m < T ∧ ¬ ntU (upD V) T L (A 0 0 L) m = 0) ↔ m = upD V L c0 0 := by
    intro m
    have bits : m < T → ∀ c, c < 64 → (tb (ntU (upD V) T L (A 0 0 L) m) c = true ↔ iP c0 L (upD V L c0 0) c L 0 0 m) := fun hm c hc => by
      have := sb c L 0 0 m (by omega) (by omega) hL hm hc
      unfold upB at this
      rw [if_pos (show 0 = 0 ∧ 0 = 0 ∧ L = L from ⟨rfl, rfl, rfl⟩)] at this
      exact this
    constructor
    · rintro ⟨h1, h2⟩
      obtain ⟨c, h3, h4⟩ := tb_nz h2
      exact ((bits h1 c h3).mp h4).2.2.2.2
    · rintro rfl
      refine ⟨hm0, fun e => ?_⟩
      have := (bits hm0 c0 c64).mpr ⟨rfl, rfl, rfl, rfl, rfl⟩
      rw [e, tb_0] at this
      cases this
  refine ⟨k, fun m hm => ?_⟩
  obtain ⟨t1, t2⟩ := e6 m hm
  obtain ⟨z1, z2⟩ := hz (m : Int) (by omega) (by omega)
  rw [z1] at t1
  rw [z2] at t2
  by_cases q : m = upD V L c0 0
  · rw [if_pos ((key m).mpr q)] at t1 t2
    rw [t1, t2]
    refine ⟨⟨Or.inr ⟨0, c0, L, 0, 0, by omega, ⟨rfl, rfl, rfl, rfl, q⟩, by omega⟩, by omega, fun y w => ?_⟩, ⟨Or.inr ⟨0, c0, L, 0, 0, by omega, ⟨rfl, rfl, rfl, rfl, q⟩, by omega⟩, by omega, fun y w => ?_⟩⟩
    · obtain ⟨h, c, l, s, u, -, -, w⟩ := w
      omega
    · obtain ⟨h, c, l, s, u, -, -, w⟩ := w
      omega
  · rw [if_neg (fun w => q ((key m).mp w))] at t1 t2
    rw [t1, t2]
    refine ⟨mnP_0 (fun y w => ?_), mnP_0 (fun y w => ?_)⟩
    · obtain ⟨h, c, l, s, u, h1, h2, -⟩ := w
      rw [show h = 0 by omega] at h2
      exact q h2.2.2.2.2
    · obtain ⟨h, c, l, s, u, h1, h2, -⟩ := w
      rw [show h = 0 by omega] at h2
      exact q h2.2.2.2.2
theorem s4_toursOf (K : RKD E d) (kp : VK E p) (hp : p + 6 ≤ d) (hw : VW B p) (eV : vyN B p = V) (N : RN V (q : Int) S G L n) (hq : q < 4) (hr : B.2.2.1 (d + 6) q = some (d + 7 + 4 * q)) (e0 : i32 era) (r0 : i32 (B.1 (d + 7 + 4 * q) 4)) (hcv : B.1 (d + 7 + 4 * q) 4 = era → TUV B (d + 7 + 4 * q) V (q : Int)) (hbr : B.1 (d + 7 + 4 * q) 4 ≠ era ∨ True) : ∃ C, fX4_toursOf (E.1 + d) (E.1 + p) (iI (q : Int)) (iI era) (St E B) = some (E.1 + (d + 7 + 4 * q), St E C) ∧ toF d (d + 7 + 4 * q) B C ∧ TUV C (d + 7 + 4 * q) V (q : Int) ∧ (brI B (d + 2) (V.1 1) (V.1 2) 64 → brI C (d + 2) (V.1 1) (V.1 2) 64) ∧ C.1 (d + 7 + 4 * q) 4 = era := by
  have R := RKD_RE K kp hp hq
  obtain ⟨r, hr'⟩ : ∃ r, r = d + 7 + 4 * q := ⟨_, rfl⟩
  rw [← hr'] at hr r0 hcv R ⊢
  have kd := K.1.1
  have kr := R.2.2.1.1
  obtain ⟨e1, e2⟩ := e0
  obtain ⟨r1, r2⟩ := r0
  have N' := N
  obtain ⟨hV, i0, eS, eG, eL, hn, hS, hG⟩ := N'
  have v9 := hV.2.2.2.2.2.2.2.2.1
  obtain ⟨D, hD⟩ : ∃ D : Nat, V.1 9 = (D : Int) := ⟨(V.1 9).toNat, by omega⟩
  have d5 : (wR B d 5 (some r)).2.2.1 d 5 = some r := by rw [wR_3, if_pos ⟨rfl, rfl⟩]
  have hd : fX4_toursOf (E.1 + d) (E.1 + p) (iI (q : Int)) (iI era) (St E B) = if iI (B.1 r 4) = iI era then some (E.1 + r, St E (wR B d 5 (some r))) else ((fX2_clearTours (E.1 + r) (St E (wR B d 5 (some r)))).bind fun s9 => (gI s9 (E.1 + p) 6 9).bind fun v10 => (fX4_prepare (E.1 + d) (E.1 + p) (iI (q : Int)) (iI 1) (ish (iI 1) v10) s9).bind fun s11 => (gI s11 (E.1 + d) 4 6).bind fun v12 => (gI s11 (E.1 + d) 4 6).bind fun v13 => (fX4_placeOf (E.1 + d) (iI 0) (iI 0) v13 s11).bind fun r14 => (fX4_noteTours (E.1 + d) (iI 0) v12 r14.1 (iI (-1)) r14.2).bind fun s15 => (iter (fX4_toursOf_l64 (E.1 + d) (E.1 + p) (iI era)) FU ((iI 0), s15)).bind fun r19 => (gR r19 (E.1 + d) 4 5).bind fun v20 => (fX2_spreadTours v20 r19).bind fun s21 => (gR s21 (E.1 + d) 4 5).bind fun v22 => (pI s21 v22 2 4 (iI era)).bind fun s23 => fX4_toursOf_b100 (E.1 + d) s23) := by
    unfold fX4_toursOf
    rw [c4 kd, some_bind, g4_3 kd, some_bind, aR_ok K.2.1.2.2 (by omega) (by omega) (by omega) (by omega) (by rw [Int.toNat_natCast]; exact hr), some_bind, p4_5 kd, some_bind, g4_5 kd d5, some_bind, g2_4 kr, some_bind, wR_1, some_bind]
    congr 1
    unfold fX4_toursOf_b100
    rw [g4_5 kd d5, some_bind]
  rw [hd]
  by_cases c : B.1 r 4 = era
  · rw [if_pos (by rw [c])]
    refine ⟨_, rfl, ⟨fun _ _ _ _ => rfl, fun _ _ _ => rfl, fun e j h => ?_, fun _ _ _ => rfl, fun _ _ _ => rfl⟩, TUV_row rfl rfl (hcv c), fun w => brI_row rfl rfl w, c⟩
    rw [wR_3, if_neg (fun a => h a.1)]
  · rw [if_neg (fun w => c ((iI_eq r1 r2 e1 e2).mp w))]
    obtain ⟨C1, a1, a2, a3⟩ := s2_clearTours (E := E) (B := wR B d 5 (some r)) (d := r) kr R.2.2.1.2.2.1 R.2.2.1.2.2.2
    obtain ⟨b1, b2, b3, b4, b5⟩ := a2
    have w1 : VW C1 p := VW_eq (fun j => by rw [b1]; rfl) hw
    have ev1 : vyN C1 p = V := by rw [← eV]; exact vyN_eq (fun j => by rw [b1]; rfl) (fun k z _ _ => by rw [b5 k (by omega) (by omega)]; rfl)
    have p9 : C1.1 p 9 = (D : Int) := by rw [← hD, ← ev1]; rfl
    have T32 : 2 ^ D ≤ 32 := p2_le (by omega)
    have Tp : 0 < 2 ^ D := Nat.two_pow_pos D
    have is1 : ish (iI 1) (iI (D : Int)) = iI ((2 ^ D : Nat) : Int) := by
      have := ish_ok (k := (D : Int)) (by omega) (by omega)
      rw [Int.toNat_natCast] at this
      exact this
    obtain ⟨C2, ed, f1, f2, f3, f4⟩ := s4_prepare (i := (q : Int)) (T' := ((2 ^ D : Nat) : Int)) (k := 1) (T := 2 ^ D) R w1 ev1 N (by omega) (fun _ => by rw [b3]; exact d5) (by omega) (by omega)
    obtain ⟨c0, hc0, c64, cok, hL⟩ := scV_b N
    have tz : ∀ z : Int, 0 ≤ z → z < 32 → tuT C2 r z = 99 ∧ tuH C2 r z = 99 := fun z z0 z1 => by
      unfold tuT tuH
      rw [f2.2.2.2.1]
      exact a3 z z0 z1
    have tk2 : tuK C2 r := fun z z0 z1 => by
      have := tz z z0 z1
      omega
    obtain ⟨C3, g1, g2, g3, g4, g5, g6⟩ := s4_noteTours (s := 0) (u := 0) (l := L) (hh := -1) (T := 2 ^ D) (D := D) R f3 (by omega) hV hn hS hG rfl hD (by omega) (by omega) hL (by omega) tk2 f4
    have c3 := RC_nF R g2 f3
    have ts0 : TSI C3 r V S G L c0 0 := TSI_0 (hh := -1) (stA0_bR (k := 1) (i := (q : Int)) (n := n) (T := 2 ^ D) (by decide) hc0 c64) ⟨by omega, T32⟩ hL c64 (upD_lt rfl hD (by omega)) g4 tz g6
    obtain ⟨C4, h1, ⟨h2, h2'⟩, h3, h4⟩ := s4_tourRun (x3 := iI era) R N hc0 rfl hD c3 g3 ts0
    have k5 : C4.2.2.1 d 5 = some r := h3.1.2 (by omega)
    obtain ⟨C5, i1, i2, i3, i4, i5⟩ := s2_spreadTours (E := E) (B := C4) (d := r) kr R.2.2.1.2.2.1 R.2.2.1.2.2.2 h4.1
    have k5b : C5.2.2.1 d 5 = some r := by rw [i2.2.2.1]; exact k5
    refine ⟨wI C5 r 4 era, ?_, ⟨fun e j x1 x2 => ?_, fun e j x => ?_, fun e j x => ?_, fun e x1 x2 => ?_, fun e x1 x2 => ?_⟩, ?_, fun _ => ?_, ?_⟩
    · have k5' : (wI C5 r 4 era).2.2.1 d 5 = some r := k5b
      have po := s4_pO (s := 0) (u := 0) (l := L) (n := n) R f3 hn
      have po' : fX4_placeOf (E.1 + d) (iI 0) (iI 0) (iI (L : Int)) (St E C2) = some (iI ((plN G n (2 ^ D) 0 0 L 0 : Nat) : Int), St E C2) := po
      have g1' : fX4_noteTours (E.1 + d) (iI 0) (iI (L : Int)) (iI ((plN G n (2 ^ D) 0 0 L 0 : Nat) : Int)) (iI (-1)) (St E C2) = some (St E C3) := g1
      rw [a1, some_bind, g6_9 kp.1, some_bind, p9, is1, f1, some_bind, g4_6 kd, some_bind, f3.2.1.1, some_bind, po', some_bind]
      dsimp only
      rw [g1', some_bind, h1, some_bind, g4_5 kd k5, some_bind, i1, some_bind, g4_5 kd k5b, some_bind, p2_4 kr, some_bind]
      unfold fX4_toursOf_b100
      rw [g4_5 kd k5', some_bind]
    · rw [wI_1, if_neg x2, i2.1, h2.1, g2.1, f2.1 e j (by omega), b1]
      rfl
    · show C5.2.1 e j = _
      rw [i2.2.1, h2.2.1, g2.2.1, f2.2.1 e j x, b2]
      rfl
    · show C5.2.2.1 e j = _
      rw [i2.2.2.1, h2.2.2.1, g2.2.2.1, f2.2.2.1 e j (by omega), b3, wR_3, if_neg (fun a => x a.1)]
    · show C5.2.2.2.1 e = _
      rw [i2.2.2.2.2 e x1 x2, h2.2.2.2.1 e x1 x2, g2.2.2.2.1 e x1 x2, f2.2.2.2.1, b5 e x1 x2]
      rfl
    · show C5.2.2.2.2 e = _
      by_cases er : e = r + 1
      · rw [i2.2.2.2.1, er, h2', g5, f2.2.2.2.2 (r + 1) (by omega) (by omega), b4]
        rfl
      · rw [i2.2.2.2.1, h2.2.2.2.2 e x1 er, g2.2.2.2.2 e x1 er, f2.2.2.2.2 e x1 x2, b4]
        rfl
    · exact TUV_row (B := C5) rfl rfl ⟨S, G, L, n, c0, N, hc0, TUS_sp h4 i3 i4 i5⟩
    · refine brI_row (B := C4) ?_ ?_ h3.2.2.2.2.1.2
      · show C5.2.1 (d + 2) 1 = _
        rw [i2.2.1]
      · show C5.2.2.2.2 (d + 2 + 1) = _
        rw [i2.2.2.2.1]
    · rw [wI_1, if_pos ⟨rfl, rfl⟩]
end TUO
