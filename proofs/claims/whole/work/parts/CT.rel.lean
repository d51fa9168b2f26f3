/-! the whole relation between the two objects, and what keeps its parts -/
def RO (E : Ev) (B : Bk) (n i : Nat) : Prop := 84 ≤ E.2.2.2.1 ∧ ((B.2.2.1 co 9 = none ∧ E.2.2.2.1 ≤ 84 + i ∧ E.2.2.2.2 ≤ 116140 + 5 * i) ∨ ∃ d, B.2.2.1 co 9 = some d ∧ 84 ≤ d ∧ RKD E d ∧ RMB B d n ∧ E.2.2.2.1 ≤ 107 + i ∧ E.2.2.2.2 ≤ 137272 + 5 * i)
def Rl (E : Ev) (K : Nat → Nat) (B : Bk) (n m i : Nat) : Prop :=
  STR E K ∧ FB E B n m ∧ ((n = 20 ∧ m = 26) ∨ (n = 26 ∧ m = 20)) ∧ (RK E B ∧ RS B) ∧ (IK E B ∧ IM B) ∧ (rTp B ∧ rT2 B) ∧ (KD E (co + 1) 22 1600 ∧ KD E (co + 2) 3 10) ∧ (DDm n B ∧ ∀ k : Nat, k < 3 → B.2.2.2.1 (co + 18) k = 1 → DDm (32 + 6 * k) B) ∧ (1 ≤ B.1 co 12 ∧ B.1 co 12 ≤ 1 + (i : Int)) ∧ RO E B n i
/-- tape and faults -/
def WT (B C : Bk) : Prop := (C.1 co 10 = B.1 co 10 ∧ C.1 mo 6 = B.1 mo 6 ∧ C.1 mo 14 = B.1 mo 14 ∧ C.1 mo 15 = B.1 mo 15) ∧ (∀ j, C.1 (co + 2) j = B.1 (co + 2) j) ∧ (∀ z, C.2.2.2.1 (co + 1) z = B.2.2.2.1 (co + 1) z) ∧ ∀ z, C.2.2.2.1 (mo + 5) z = B.2.2.2.1 (mo + 5) z
/-- slots -/
def WS (B C : Bk) : Prop := (∀ d j, 50 ≤ d → d < 58 → C.1 d j = B.1 d j) ∧ (∀ d z, d = mo + 1 ∨ d = mo + 2 → C.2.2.2.1 d z = B.2.2.2.1 d z) ∧ ∀ d z, (50 ≤ d ∧ d < 58) ∨ d = mo + 3 → C.2.2.2.2 d z = B.2.2.2.2 d z
/-- images -/
def WM (B C : Bk) : Prop := (∀ d j, 32 ≤ d → d < 50 → C.1 d j = B.1 d j) ∧ (∀ d z, (32 ≤ d ∧ d < 50) ∨ d = co + 18 ∨ d = mo + 14 → 0 ≤ z → C.2.2.2.1 d z = B.2.2.2.1 d z) ∧ ∀ d z, mo + 6 ≤ d → d ≤ mo + 13 → d ≠ mo + 9 → bsz d ≤ z → z < 4 * bsz d → C.2.2.2.1 d z = B.2.2.2.1 d z
/-- references that stand -/
def WK (B C : Bk) : Prop := (∀ j, C.2.2.1 (co + 17) j = B.2.2.1 (co + 17) j) ∧ (∀ j, C.2.2.1 (co + 19) j = B.2.2.1 (co + 19) j) ∧ C.2.2.1 co 9 = B.2.2.1 co 9
/-- the Roamer's cells -/
def WO (c : Nat) (B C : Bk) : Prop := ∀ e, 84 ≤ e → e < c → C.1 e = B.1 e ∧ C.2.1 e = B.2.1 e ∧ C.2.2.1 e = B.2.2.1 e ∧ C.2.2.2.1 e = B.2.2.2.1 e ∧ C.2.2.2.2 e = B.2.2.2.2 e
section RLT
variable {E E' : Ev} {B C : Bk} {n m i d c : Nat} {K : Nat → Nat}
theorem T_to (h : WT B C) (t : rTp B ∧ rT2 B) : rTp C ∧ rT2 C := by
  obtain ⟨⟨h1, h2, h3, h4⟩, h5, h6, h7⟩ := h
  have e6 : C.2.2.2.1 (co + 1) = B.2.2.2.1 (co + 1) := funext h6
  have e7 : C.2.2.2.1 (mo + 5) = B.2.2.2.1 (mo + 5) := funext h7
  unfold rTp rT2 at *
  simp only [h1, h2, h3, h4, h5, e6, e7]
  exact t
theorem S_to (h : WS B C) (s : RS B) : RS C := fun k hk => by
  have hmo : mo = 58 := rfl
  have r := s k hk
  obtain ⟨h1, h2, h3⟩ := h
  have a1 := fun j => h1 (50 + 2 * k) j (by omega) (by omega)
  have a2 := fun z => h2 (mo + 1) z (Or.inl rfl)
  have a3 := fun z => h2 (mo + 2) z (Or.inr rfl)
  have a4 := fun z => h3 (50 + 2 * k + 1) z (Or.inl ⟨by omega, by omega⟩)
  have a5 := fun z => h3 (mo + 3) z (Or.inr rfl)
  unfold RW at *
  simp only [a1, a2, a3, a4, a5]
  exact r
theorem M_to (h : WM B C) (s : IM B) : IM C := fun k hk => by
  have hmo : mo = 58 := rfl
  have hco : co = 0 := rfl
  obtain ⟨i1, i2, i3⟩ := s k hk
  obtain ⟨h1, h2, h3⟩ := h
  have e18 := h2 (co + 18) (k : Int) (Or.inr (Or.inl rfl)) (by omega)
  have e14 := h2 (mo + 14) (k : Int) (Or.inr (Or.inr rfl)) (by omega)
  rw [e18, e14]
  refine ⟨i1, i2, fun q => ?_⟩
  obtain ⟨a, b, c⟩ := i3 q
  refine vcp (fun j _ => h1 _ _ (by omega) (by omega)) (fun r z r1 r2 z0 _ => h2 _ _ (Or.inl ⟨by omega, by omega⟩) z0) (fun r hr z z0 z1 => ?_) a b c
  have hv := bsz_v hr
  refine h3 _ _ (by omega) (by omega) (by omega) ?_ ?_
  · rcases hv with q | q | q | q | q | q <;> (rw [q] at z1 ⊢; omega)
  · rcases hv with q | q | q | q | q | q <;> (rw [q] at z1 ⊢; omega)
theorem K_to (h : WK B C) : (RK E B → RK E C) ∧ (IK E B → IK E C) := by
  obtain ⟨h1, h2, h3⟩ := h
  refine ⟨fun r => ⟨r.1, r.2.1, r.2.2.1, fun k hk => ?_⟩, fun r => ⟨r.1, r.2.1, fun k hk => ?_⟩⟩
  · obtain ⟨a, b, c⟩ := r.2.2.2 k hk
    exact ⟨a, b, (h2 k).trans c⟩
  · obtain ⟨a, b⟩ := r.2.2 k hk
    exact ⟨a, (h1 k).trans b⟩
theorem IK_x (x : Ex E E') (h : IK E B) : IK E' B := ⟨KD_x x h.1, KD_x x h.2.1, fun k hk => ⟨VK_x x (h.2.2 k hk).1, (h.2.2 k hk).2⟩⟩
theorem FB_x (x : Ex E E') (h : FB E B n m) : FB E' B n m := ⟨RV_x x h.1, ⟨PK_x x h.2.1.1, PK_x x h.2.1.2.1, VK_x x h.2.1.2.2.1, h.2.1.2.2.2⟩, h.2.2⟩
theorem RKD_x (x : Ex E E') (h : RKD E d) : RKD E' d := ⟨⟨KD_x x h.1.1, KD_x x h.1.2.1, KD_x x h.1.2.2.1, KD_x x h.1.2.2.2⟩, ⟨KD_x x h.2.1.1, KD_x x h.2.1.2.1, KD_x x h.2.1.2.2⟩, fun q hq => ⟨KD_x x (h.2.2 q hq).1, KD_x x (h.2.2 q hq).2.1, KD_x x (h.2.2 q hq).2.2.1, KD_x x (h.2.2 q hq).2.2.2⟩⟩
theorem STR_x (x : Ex E E') (h : STR E K) : STR E' K := fun k hk => by
  have := h k hk
  rw [x.1, x.2.1]
  exact this
theorem RKD_lt (h : RKD E d) : d + 22 < E.2.2.2.1 := (h.2.2 3 (by omega)).2.2.2.1
theorem DDm_to {p q : Nat} (h9 : C.1 p 9 = B.1 q 9) (h5 : B.1 q 9 ≤ 5) (hr : ∀ z : Int, 0 ≤ z → z < 15 → C.2.2.2.1 (p + 3) z = B.2.2.2.1 (q + 3) z) (h : DDm q B) : DDm p C := fun i j i0 ij j1 => by
  rw [h9] at j1
  rw [hr _ (by omega) (by omega), hr _ (by omega) (by omega), hr _ (by omega) (by omega), hr _ (by omega) (by omega)]
  exact h i j i0 ij j1
/-- the Roamer's part where the valley stays -/
theorem RMB_to (h : WO c B C) (hd : 84 ≤ d) (hc : d + 22 < c) (ev : vyN C n = vyN B n) (ec : C.1 co 12 = B.1 co 12) (r : RMB B d n) : RMB C d n := by
  have h1 : ∀ e, 84 ≤ e → e < c → C.1 e = B.1 e := fun e a b => (h e a b).1
  have h2 : ∀ e, 84 ≤ e → e < c → C.2.1 e = B.2.1 e := fun e a b => (h e a b).2.1
  have h3 : ∀ e, 84 ≤ e → e < c → C.2.2.1 e = B.2.2.1 e := fun e a b => (h e a b).2.2.1
  have h4 : ∀ e, 84 ≤ e → e < c → C.2.2.2.1 e = B.2.2.2.1 e := fun e a b => (h e a b).2.2.2.1
  have h5 : ∀ e, 84 ≤ e → e < c → C.2.2.2.2 e = B.2.2.2.2 e := fun e a b => (h e a b).2.2.2.2
  obtain ⟨r1, r2, r3, r4, r5, r6, r7⟩ := r
  have bi : brI C (d + 2) ((vyN B n).1 1) ((vyN B n).1 2) 64 = brI B (d + 2) ((vyN B n).1 1) ((vyN B n).1 2) 64 := by
    unfold brI
    rw [h2 (d + 2) (by omega) (by omega), h5 (d + 2 + 1) (by omega) (by omega)]
  have cl : ∀ q, q < 4 → CLV C (d + 7 + 4 * q) (vyN B n) (q : Int) = CLV B (d + 7 + 4 * q) (vyN B n) (q : Int) := fun q hq => by
    unfold CLV CLI hiR
    rw [h5 (d + 7 + 4 * q + 1) (by omega) (by omega)]
  have tu : ∀ q, q < 4 → TUV C (d + 7 + 4 * q) (vyN B n) (q : Int) = TUV B (d + 7 + 4 * q) (vyN B n) (q : Int) := fun q hq => by
    unfold TUV TUS tuK tuT tuH
    rw [h4 (d + 7 + 4 * q + 2) (by omega) (by omega), h4 (d + 7 + 4 * q + 3) (by omega) (by omega)]
  have gd : GDV C d (vyN B n) = GDV B d (vyN B n) := by
    unfold GDV GDS
    rw [h1 (d + 4) (by omega) (by omega), h4 (d + 5) (by omega) (by omega)]
  unfold RMB
  rw [ev, ec, bi, gd, h3 (d + 6) (by omega) (by omega), h1 (d + 4) (by omega) (by omega)]
  refine ⟨r1, fun q hq => ?_, fun q hq a => ?_, fun q hq a => ?_, r5, r6, r7⟩
  · rw [h1 _ (by omega) (by omega)]
    exact r2 q hq
  · rw [h1 _ (by omega) (by omega)] at a
    rw [cl q hq]
    exact r3 q hq a
  · rw [h1 _ (by omega) (by omega)] at a
    rw [tu q hq]
    exact r4 q hq a
/-- the Roamer's part where a new era begins: all caches are older -/
theorem RMB_up {n' : Nat} (h : WO c B C) (hd : 84 ≤ d) (hc : d + 22 < c) (ec : C.1 co 12 = B.1 co 12 + 1) (r : RMB B d n) : RMB C d n' := by
  have h1 : ∀ e, 84 ≤ e → e < c → C.1 e = B.1 e := fun e a b => (h e a b).1
  have h3 : ∀ e, 84 ≤ e → e < c → C.2.2.1 e = B.2.2.1 e := fun e a b => (h e a b).2.2.1
  obtain ⟨r1, r2, r3, r4, r5, r6, r7⟩ := r
  unfold RMB
  rw [ec, h3 (d + 6) (by omega) (by omega), h1 (d + 4) (by omega) (by omega)]
  refine ⟨r1, fun q hq => ?_, fun q hq a => ?_, fun q hq a => ?_, by omega, r6, fun a => by omega⟩
  · rw [h1 _ (by omega) (by omega)]
    have := r2 q hq
    omega
  · rw [h1 _ (by omega) (by omega)] at a
    have := r2 q hq
    omega
  · rw [h1 _ (by omega) (by omega)] at a
    have := r2 q hq
    omega
/-- what questions need stays -/
theorem FB_to (F : FB E B n m) (c11 : C.1 co 11 = B.1 co 11) (en : ∀ j, C.1 n j = B.1 n j) (hr : ∀ d j, (d = co ∧ (j = 7 ∨ j = 8)) ∨ (d = 3 ∧ j = 6) → C.2.2.1 d j = B.2.2.1 d j) (er : ∀ k z, n < k → k ≤ n + 5 → C.2.2.2.1 k z = B.2.2.2.1 k z) (ev : ∀ k z, 3 < k → k ≤ 16 → C.2.2.2.1 k z = B.2.2.2.1 k z) (l3 : C.2.1 3 7 = B.2.1 3 7) (l10 : C.2.1 10 7 = B.2.1 10 7) (eb : ∀ k z, mo + 6 ≤ k → k ≤ mo + 13 → k ≠ mo + 9 → 0 ≤ z → z < bsz k → C.2.2.2.1 k z = B.2.2.2.1 k z) : FB E C n m := by
  obtain ⟨R, ⟨k1, k2, k3, k4⟩, ⟨n0, n1, m0, m1, nm⟩, P⟩ := F
  have hmo : mo = 58 := rfl
  have b6 : bsz (mo + 6) = 1 := rfl
  have b7 : bsz (mo + 7) = 15 := rfl
  have b8 : bsz (mo + 8) = 120 := rfl
  have b10 : bsz (mo + 10) = 24 := rfl
  have b11 : bsz (mo + 11) = 15 := rfl
  have b12 : bsz (mo + 12) = 96 := rfl
  have b13 : bsz (mo + 13) = 240 := rfl
  refine ⟨rv_to n0 R ((hr co 7 (Or.inl ⟨rfl, Or.inl rfl⟩)).trans R.1.2.1) en er (eb _ _ (by omega) (by omega) (by omega) (by omega) (by omega)) (fun z a b => eb _ _ (by omega) (by omega) (by omega) a (by omega)) (fun z a b => eb _ _ (by omega) (by omega) (by omega) a (by omega)) (fun z a b => eb _ _ (by omega) (by omega) (by omega) a (by omega)) (fun z a b => eb _ _ (by omega) (by omega) (by omega) a (by omega)) (fun z a b => eb _ _ (by omega) (by omega) (by omega) a (by omega)) (fun z a b => eb _ _ (by omega) (by omega) (by omega) a (by omega)), ⟨k1, k2, k3, (hr co 8 (Or.inl ⟨rfl, Or.inr rfl⟩)).trans k4⟩, ⟨n0, n1, m0, m1, nm⟩, ?_⟩
  exact pl_to P c11 (hr 3 6 (Or.inr ⟨rfl, rfl⟩)) en (fun k z a b => er k z a (by omega)) ev l3 l10
theorem RO_mono {j : Nat} (h : RO E B n i) (hij : i ≤ j) : RO E B n j := by
  obtain ⟨h0, h | ⟨d, a, b, c, e, f, g⟩⟩ := h
  · exact ⟨h0, Or.inl ⟨h.1, by omega, by omega⟩⟩
  · exact ⟨h0, Or.inr ⟨d, a, b, c, e, by omega, by omega⟩⟩
/-- the Roamer's part, by frame -/
theorem RO_to (h : WO E.2.2.2.1 B C) (hk : C.2.2.1 co 9 = B.2.2.1 co 9) (ev : vyN C n = vyN B n) (ec : C.1 co 12 = B.1 co 12) (r : RO E B n i) : RO E C n (i + 1) := by
  obtain ⟨h0, r | ⟨d, a, b, c, e, f, g⟩⟩ := r
  · exact ⟨h0, Or.inl ⟨hk.trans r.1, by omega, by omega⟩⟩
  · exact ⟨h0, Or.inr ⟨d, hk.trans a, b, c, RMB_to h b (RKD_lt c) ev ec e, by omega, by omega⟩⟩
theorem RO_up {n' : Nat} (h : WO E.2.2.2.1 B C) (hk : C.2.2.1 co 9 = B.2.2.1 co 9) (ec : C.1 co 12 = B.1 co 12 + 1) (r : RO E B n i) : RO E C n' (i + 1) := by
  obtain ⟨h0, r | ⟨d, a, b, c, e, f, g⟩⟩ := r
  · exact ⟨h0, Or.inl ⟨hk.trans r.1, by omega, by omega⟩⟩
  · exact ⟨h0, Or.inr ⟨d, hk.trans a, b, c, RMB_up h b (RKD_lt c) ec e, by omega, by omega⟩⟩
theorem Rl_d5 (H : Rl E K B n m i) : B.1 n 9 ≤ 5 ∧ ∀ k : Nat, k < 3 → B.2.2.2.1 (co + 18) k = 1 → B.1 (32 + 6 * k) 9 ≤ 5 := by
  obtain ⟨S, F, nm, ⟨rk, rs⟩, ⟨ik, im⟩, -⟩ := H
  obtain ⟨-, -, -, -, -, -, -, -, -, w9⟩ := F.1.2.1
  refine ⟨w9.2, fun k hk q => ?_⟩
  obtain ⟨-, -, -, -, -, -, -, -, -, w9⟩ := ((im k hk).2.2 q).1
  exact w9.2
/-- images' doors stay distinct -/
theorem Dim_to (h : WM B C) (H : ∀ k : Nat, k < 3 → B.2.2.2.1 (co + 18) k = 1 → DDm (32 + 6 * k) B) (h5 : ∀ k : Nat, k < 3 → B.2.2.2.1 (co + 18) k = 1 → B.1 (32 + 6 * k) 9 ≤ 5) : ∀ k : Nat, k < 3 → C.2.2.2.1 (co + 18) k = 1 → DDm (32 + 6 * k) C := fun k hk q => by
  have hco : co = 0 := rfl
  rw [h.2.1 (co + 18) (k : Int) (Or.inr (Or.inl rfl)) (by omega)] at q
  exact DDm_to (h.1 _ _ (by omega) (by omega)) (h5 k hk q) (fun z z0 z1 => h.2.1 _ _ (Or.inl ⟨by omega, by omega⟩) z0) (H k hk q)
end RLT
