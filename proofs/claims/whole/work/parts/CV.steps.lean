/-! changes of the plan; each kind of call is a step of the relation -/
/-- the same valley under another plan -/
def vyP (V : Vy) (x : Int) (A : Int → Int → Int) : Vy := (fun j => if j = 13 then x else V.1 j, V.2.1, V.2.2.1, V.2.2.2.1, A, V.2.2.2.2.2)
section PLN
variable {V : Vy} {x : Int} {A : Int → Int → Int} {S G L c0 e c l sd : Nat}
theorem Sx_P {U : Nat → Nat → Nat → Nat} {h : Nat} {P : StP} : Sx (vyP V x A) S G U h P = Sx V S G U h P := rfl
theorem Pt_P {U : Nat → Nat → Nat → Nat} {h0 : Nat} {P0 : StP} : ∀ j, Pt (vyP V x A) S G U h0 P0 j = Pt V S G U h0 P0 j
  | 0 => rfl
  | j + 1 => by
    show Sx (vyP V x A) S G U (j + h0) (Pt (vyP V x A) S G U h0 P0 j) = Sx V S G U (j + h0) (Pt V S G U h0 P0 j)
    rw [Pt_P j, Sx_P]
theorem dmN_P {c : Nat} : ∀ j, dmN (vyP V x A) c j = dmN V c j
  | 0 => rfl
  | j + 1 => by
    show dmN (vyP V x A) c j ||| (if V.2.2.2.1 (j : Int) 1 * 8 + V.2.2.2.1 (j : Int) 0 = (c : Int) then 2 ^ j else 0) = dmN V c j ||| (if V.2.2.2.1 (j : Int) 1 * 8 + V.2.2.2.1 (j : Int) 0 = (c : Int) then 2 ^ j else 0)
    rw [dmN_P j]
theorem upD_P : upD (vyP V x A) = upD V := by
  funext l c t
  show (if (l : Int) ≤ V.1 6 then t ||| dmN (vyP V x A) c (V.1 9).toNat else t) = (if (l : Int) ≤ V.1 6 then t ||| dmN V c (V.1 9).toNat else t)
  rw [dmN_P]
theorem RN_P {i : Int} {n : Nat} (hV : VOK V → VOK (vyP V x A)) (N : RN V i S G L n) : RN (vyP V x A) i S G L n := ⟨hV N.1, N.2⟩
theorem CLV_P {B : Bk} {r : Nat} {i : Int} (hV : VOK V → VOK (vyP V x A)) (h : CLV B r V i) : CLV B r (vyP V x A) i := by
  obtain ⟨S, G, L, n, c0, N, hc, cl⟩ := h
  refine ⟨S, G, L, n, c0, RN_P hV N, hc, ?_⟩
  unfold CLI at *
  simp only [Pt_P]
  exact cl
theorem TUV_P {B : Bk} {r : Nat} {i : Int} (hV : VOK V → VOK (vyP V x A)) (h : TUV B r V i) : TUV B r (vyP V x A) i := by
  obtain ⟨S, G, L, n, c0, N, hc, cl⟩ := h
  refine ⟨S, G, L, n, c0, RN_P hV N, hc, ?_⟩
  unfold TUS at *
  simp only [Pt_P, upD_P]
  exact cl
theorem Ld_P {h c1 l1 s1 u1 : Nat} : Ld (vyP V x A) S G e c l sd h c1 l1 s1 u1 = Ld V S G e c l sd h c1 l1 s1 u1 := by
  unfold Ld
  simp only [Pt_P]
theorem gdA_P {h c1 l1 s1 u1 : Nat} {a : Int} : gdA (vyP V x A) S G e c l sd h a c1 l1 s1 u1 = gdA V S G e c l sd h a c1 l1 s1 u1 := by
  unfold gdA
  simp only [Ld_P]
  rfl
theorem WR_P {h c1 l1 s1 u1 : Nat} {a : Int} : WR (vyP V x A) S G e c l sd h a c1 l1 s1 u1 = WR V S G e c l sd h a c1 l1 s1 u1 := by
  unfold WR
  simp only [gdA_P]
theorem Wk_P : ∀ h c1 l1 s1 u1, Wk (vyP V x A) S G e c l sd c0 L h c1 l1 s1 u1 = Wk V S G e c l sd c0 L h c1 l1 s1 u1
  | 0, _, _, _, _ => rfl
  | h + 1, c2, l2, s2, u2 => by
    show (∃ c1 l1 s1 u1 a, Wk (vyP V x A) S G e c l sd c0 L h c1 l1 s1 u1 ∧ WR (vyP V x A) S G e c l sd h a c1 l1 s1 u1 ∧ nxS (vyP V x A) S G h a c1 l1 s1 u1 c2 l2 s2 u2) = (∃ c1 l1 s1 u1 a, Wk V S G e c l sd c0 L h c1 l1 s1 u1 ∧ WR V S G e c l sd h a c1 l1 s1 u1 ∧ nxS V S G h a c1 l1 s1 u1 c2 l2 s2 u2)
    simp only [Wk_P h, WR_P]
    rfl
theorem snE_P : snE (vyP V x A) S G L c0 c l e sd = snE V S G L c0 c l e sd := by
  unfold snE
  simp only [Pt_P]
theorem GDV_P {B : Bk} {d : Nat} (hV : VOK V → VOK (vyP V x A)) (h : GDV B d V) : GDV B d (vyP V x A) := by
  obtain ⟨q, c, l, S, G, L, n, c0, h1, h2, h3, N, hc, g⟩ := h
  refine ⟨q, c, l, S, G, L, n, c0, h1, h2, h3, RN_P hV N, hc, ?_⟩
  unfold GDS at *
  simp only [Pt_P, snE_P, Wk_P, WR_P]
  exact g
end PLN
section STP
variable {E : Ev} {B C : Bk} {n m i d c : Nat} {K : Nat → Nat}
theorem RMB_pl {x : Int} {A : Int → Int → Int} (h : WO c B C) (hd : 84 ≤ d) (hc : d + 22 < c) (ev : vyN C n = vyP (vyN B n) x A) (hV : VOK (vyN B n) → VOK (vyP (vyN B n) x A)) (ec : C.1 co 12 = B.1 co 12) (r : RMB B d n) : RMB C d n := by
  have h1 : ∀ e, 84 ≤ e → e < c → C.1 e = B.1 e := fun e a b => (h e a b).1
  have h2 : ∀ e, 84 ≤ e → e < c → C.2.1 e = B.2.1 e := fun e a b => (h e a b).2.1
  have h3 : ∀ e, 84 ≤ e → e < c → C.2.2.1 e = B.2.2.1 e := fun e a b => (h e a b).2.2.1
  have h4 : ∀ e, 84 ≤ e → e < c → C.2.2.2.1 e = B.2.2.2.1 e := fun e a b => (h e a b).2.2.2.1
  have h5 : ∀ e, 84 ≤ e → e < c → C.2.2.2.2 e = B.2.2.2.2 e := fun e a b => (h e a b).2.2.2.2
  obtain ⟨r1, r2, r3, r4, r5, r6, r7⟩ := r
  have bi : ∀ a b, brI C (d + 2) a b 64 = brI B (d + 2) a b 64 := fun a b => by
    unfold brI
    rw [h2 (d + 2) (by omega) (by omega), h5 (d + 2 + 1) (by omega) (by omega)]
  have cl : ∀ q V, q < 4 → CLV C (d + 7 + 4 * q) V (q : Int) = CLV B (d + 7 + 4 * q) V (q : Int) := fun q V hq => by
    unfold CLV CLI hiR
    rw [h5 (d + 7 + 4 * q + 1) (by omega) (by omega)]
  have tu : ∀ q V, q < 4 → TUV C (d + 7 + 4 * q) V (q : Int) = TUV B (d + 7 + 4 * q) V (q : Int) := fun q V hq => by
    unfold TUV TUS tuK tuT tuH
    rw [h4 (d + 7 + 4 * q + 2) (by omega) (by omega), h4 (d + 7 + 4 * q + 3) (by omega) (by omega)]
  have gd : ∀ V, GDV C d V = GDV B d V := fun V => by
    unfold GDV GDS
    rw [h1 (d + 4) (by omega) (by omega), h4 (d + 5) (by omega) (by omega)]
  unfold RMB
  rw [ev, ec, gd, h3 (d + 6) (by omega) (by omega), h1 (d + 4) (by omega) (by omega)]
  refine ⟨r1, fun q hq => ?_, fun q hq a => ?_, fun q hq a => ?_, r5, r6, fun a => GDV_P hV (r7 a)⟩
  · rw [h1 _ (by omega) (by omega)]
    exact r2 q hq
  · rw [h1 _ (by omega) (by omega)] at a
    rw [cl q _ hq, bi]
    exact ⟨CLV_P hV (r3 q hq a).1, (r3 q hq a).2⟩
  · rw [h1 _ (by omega) (by omega)] at a
    rw [tu q _ hq]
    exact TUV_P hV (r4 q hq a)
theorem Rl_fr (H : Rl E K B n m i) (h : fr n B C) (R : RV E C n) (c11 : C.1 co 11 = 0) (g : (C.1 co 12 = B.1 co 12 + 1 ∧ DQ B C n) ∨ (C.1 co 12 = B.1 co 12 ∧ (∀ j, j ≠ 13 → C.1 n j = B.1 n j) ∧ (∀ k z, 1 ≤ k → k ≤ 3 → C.2.2.2.1 (n + k) z = B.2.2.2.1 (n + k) z))) : Rl E K C n m (i + 1) := by
  have hco : co = 0 := rfl
  have hmo : mo = 58 := rfl
  obtain ⟨h5, h6⟩ := Rl_d5 H
  have H' := H
  obtain ⟨-, F, nm, ⟨-, rs⟩, ⟨-, im⟩, t, -, ⟨dd, di⟩, -, ro⟩ := H'
  obtain ⟨wt, ws, wm, wk, wo⟩ := W_fr (c := E.2.2.2.1) (by omega) h
  have bz : ∀ d, d < mo + 6 ∨ mo + 13 < d ∨ d = mo + 9 → bsz d = 0 := fun d q => bsz_0 q
  obtain ⟨-, ⟨k1, k2, k3, k4⟩, bd, -, ⟨i1, i2⟩, i3, i4⟩ := F
  obtain ⟨f1, f2, f3, f4, f5⟩ := h
  have F2 : FB E C n m := ⟨R, ⟨k1, k2, k3, by rw [f3]; exact k4⟩, bd, Or.inl c11, ⟨(f4 (3 + 6) 0 (by unfold mscr; omega) (by omega) (Or.inl (bz _ (by omega)))).trans i1, by rw [f2 3 7 (by omega)]; exact i2⟩, (f4 (10 + 6) 0 (by unfold mscr; omega) (by omega) (Or.inl (bz _ (by omega)))).trans i3, by rw [f2 10 7 (by omega)]; exact i4⟩
  rcases g with ⟨ec, dq⟩ | ⟨ec, e1, e3⟩
  · refine Rl_of H F2 nm wk (S_to ws rs) (M_to wm im) (T_to wt t) ⟨?_, Dim_to wm di h6⟩ (Or.inr ec) (RO_up wo wk.2.2 ec ro)
    rcases dq with ⟨a, b⟩ | ⟨k, hk, a, b, c⟩
    · exact DDm_to a h5 b dd
    · exact DDm_to b (h6 k hk a) c (di k hk a)
  · refine Rl_of H F2 nm wk (S_to ws rs) (M_to wm im) (T_to wt t) ⟨DDm_to (e1 9 (by omega)) h5 (fun z _ _ => e3 3 z (by omega) (by omega)) dd, Dim_to wm di h6⟩ (Or.inl ec) ?_
    obtain ⟨r0, r | ⟨d, a, b, c, e', f, g⟩⟩ := ro
    · exact ⟨r0, Or.inl ⟨wk.2.2.trans r.1, by omega, by omega⟩⟩
    · have ev : vyN C n = vyP (vyN B n) (C.1 n 13) (fun s h => C.2.2.2.1 (n + 4) (s * 24 + h)) := by
        refine Prod.ext (funext fun j => ?_) (Prod.ext (funext fun l => funext fun h => e3 1 _ (by omega) (by omega)) (Prod.ext (funext fun l => funext fun h => e3 2 _ (by omega) (by omega)) (Prod.ext (funext fun l => funext fun h => e3 3 _ (by omega) (by omega)) rfl)))
        show C.1 n j = if j = 13 then C.1 n 13 else B.1 n j
        by_cases q : j = 13
        · rw [if_pos q, q]
        · rw [if_neg q, e1 j q]
      have hV : VOK (vyN B n) → VOK (vyP (vyN B n) (C.1 n 13) (fun s h => C.2.2.2.1 (n + 4) (s * 24 + h))) := fun v => by
        have v1 : 2 ≤ B.1 n 1 := v.1.1
        rw [← ev]
        exact rv_VOK R (RV_hst R (Or.inr (Or.inl (by rw [e1 1 (by omega)]; omega))))
      exact ⟨r0, Or.inr ⟨d, wk.2.2.trans a, b, c, RMB_pl wo b (RKD_lt c) ev hV ec e', by omega, by omega⟩⟩
/-- a call of both: both answer alike, and the relation holds behind it -/
def SQ {α : Type} (E : Ev) (K : Nat → Nat) (B : Bk) (i : Nat) (f g : Hp → Option (α × Hp)) : Prop := ∃ v E' B1 B2 n' m', f (St E B) = some (v, St E' B1) ∧ g (St E' B1) = some (v, St E' B2) ∧ E'.1 = E.1 ∧ Rl E' K B2 n' m' (i + 1)
variable {f g : Hp → Option (Int32 × Hp)}
theorem SQ_QS (H : Rl E K B n m i) (q : QS E B f g) : SQ E K B i f g := by
  obtain ⟨v, B', h1, h2, h3⟩ := q
  exact ⟨v, E, B, B', n, m, h1, h2, rfl, Rl_sc H h3⟩
theorem SQ_QQ (H : Rl E K B n m i) (q : QQ E B f g) : SQ E K B i f g := SQ_QS H (QS_of q)
theorem SQ_QC (H : Rl E K B n m i) (q : QC E B n f g) : SQ E K B i f g := by
  obtain ⟨v, B1, B2, h1, h2, h3 | ⟨h3, R, h4, h5⟩⟩ := q
  · exact ⟨v, E, B1, B2, n, m, h1, h2, rfl, Rl_sc H h3⟩
  · exact ⟨v, E, B1, B2, n, m, h1, h2, rfl, Rl_fr H h3 R h4 h5⟩
theorem SQ_QF (H : Rl E K B n m i) (q : QF E B n m f g) : SQ E K B i f g := by
  obtain ⟨v, B1, B2, h1, h2, h3, h4⟩ := q
  exact ⟨v, E, B1, B2, n, m, h1, h2, rfl, Rl_fF H h3 h4⟩
theorem SQ_QR (H : Rl E K B n m i) (q : QR E B f g) : SQ E K B i f g := by
  obtain ⟨v, B1, B2, h1, h2, h3, h4⟩ := q
  exact ⟨v, E, B1, B2, n, m, h1, h2, rfl, Rl_frR H h3 h4⟩
theorem SQ_QI (H : Rl E K B n m i) (q : QI E B n f g) : SQ E K B i f g := by
  obtain ⟨v, B1, B2, h1, h2, h3, h4, h5⟩ := q
  exact ⟨v, E, B1, B2, n, m, h1, h2, rfl, Rl_fI H h3 h4 h5⟩
theorem SQ_QT (H : Rl E K B n m i) (q : QT2 E B f g) : SQ E K B i f g := by
  obtain ⟨v, B1, B2, h1, h2, h3, h4, h5⟩ := q
  exact ⟨v, E, B1, B2, n, m, h1, h2, rfl, Rl_frT H h3 ⟨h4, h5⟩⟩
theorem SQ_QV (H : Rl E K B n m i) (q : QV E B n m f g) : SQ E K B i f g := by
  obtain ⟨v, B1, B2, h1, h2, h3, h4, h5, h6⟩ := q
  obtain ⟨n', m', r⟩ := Rl_fV H h3 ⟨h4, h5⟩ h6
  exact ⟨v, E, B1, B2, n', m', h1, h2, rfl, r⟩
theorem SQ_QG (H : Rl E K B n m i) (q : QG E B 1 5 f g) : SQ E K B i f g := by
  obtain ⟨v, E', B1, B2, h1, h2, x, hc, hs, h3⟩ := q
  exact ⟨v, E', B1, B2, n, m, h1, h2, x.1, Rl_scG H x hc hs h3⟩
theorem SQ_ro {α : Type} {f g : Hp → Option (α × Hp)} (H : Rl E K B n m i) (hi : i ≤ 600) (hq : ∀ d, RQ E B n d → DD (vyN B n) → QM E B n d f g) (hr : ∀ E2 B2 c, NR E B n E2 B2 c → DD (vyN B2 n) → QN E B n E2 B2 c f g) : SQ E K B i f g := by
  have hco : co = 0 := rfl
  have H' := H
  obtain ⟨-, F, nm, -, -, -, -, ⟨dd, -⟩, e, c84, r | ⟨d, a, b, c, e', f1, g1⟩⟩ := H'
  · obtain ⟨r1, r2, r3⟩ := r
    have RQ2 := roam_RQ F.1 (by omega) (by omega) c84 (by omega)
    have n1 : ∀ e, e < E.2.2.2.1 → (wR (nB B E.2.2.2.1) co 9 (some E.2.2.2.1)).1 e = B.1 e := fun e h => funext fun j => if_neg (by omega)
    have n2 : ∀ e, e < E.2.2.2.1 → (wR (nB B E.2.2.2.1) co 9 (some E.2.2.2.1)).2.1 e = B.2.1 e := fun e h => funext fun j => if_neg (by omega)
    have n4 : ∀ e, e < E.2.2.2.1 → (wR (nB B E.2.2.2.1) co 9 (some E.2.2.2.1)).2.2.2.1 e = B.2.2.2.1 e := fun e h => funext fun j => if_neg (by omega)
    have n5 : ∀ e, e < E.2.2.2.1 → (wR (nB B E.2.2.2.1) co 9 (some E.2.2.2.1)).2.2.2.2 e = B.2.2.2.2 e := fun e h => funext fun j => if_neg (by omega)
    have n3 : ∀ e j, e < E.2.2.2.1 → ¬ (e = co ∧ j = 9) → (wR (nB B E.2.2.2.1) co 9 (some E.2.2.2.1)).2.2.1 e j = B.2.2.1 e j := fun e j h q => by
      show (if e = co ∧ j = 9 then some E.2.2.2.1 else (nB B E.2.2.2.1).2.2.1 e j) = _
      rw [if_neg q]
      exact if_neg (by omega)
    have N : NR E B n (En E 21132 TR) (wR (nB B E.2.2.2.1) co 9 (some E.2.2.2.1)) E.2.2.2.1 := ⟨F.1, RQ2, rfl, fun j => by rw [n1 n (by omega)], fun z => by rw [n4 (n + 2) (by omega)], roam_new F.1.1.1 r1⟩
    have dd1 : DDm n (wR (nB B E.2.2.2.1) co 9 (some E.2.2.2.1)) := DDm_to (by rw [n1 n (by omega)]) (Rl_d5 H).1 (fun z _ _ => by rw [n4 (n + 3) (by omega)]) dd
    have dd2 : DD (vyN (wR (nB B E.2.2.2.1) co 9 (some E.2.2.2.1)) n) := dd1
    obtain ⟨v, ⟨B', h1, h2, h3⟩ | ⟨B1, B3, h1, h2, lt, h3, Q⟩⟩ := hr _ _ _ N dd2
    · exact ⟨v, E, B, B', n, m, h1, h2, rfl, Rl_sc H h3⟩
    · have tl : TR.length = 23 := rfl
      have ro : RO (En E 21132 TR) B1 n i := by
        refine ⟨by show 84 ≤ E.2.2.2.1 + TR.length; omega, Or.inr ⟨E.2.2.2.1, Q.2.2.2.1, c84, Q.2.2.2.2.1, Q.2.2.2.2.2, ?_, ?_⟩⟩
        · show E.2.2.2.1 + TR.length ≤ 107 + i
          omega
        · show E.2.2.2.2 + 21132 ≤ 137272 + 5 * i
          omega
      have R1 : Rl (En E 21132 TR) K B1 n m i := Rl_lx H En_x (fun e he => (lt.1 e (by omega)).trans (n1 e (by omega))) (fun e he => (lt.2.1 e (by omega)).trans (n2 e (by omega))) (fun e j he q => (congrFun (lt.2.2.1 e (by omega)) j).trans (n3 e j (by omega) q)) (fun e he => (lt.2.2.2.1 e (by omega)).trans (n4 e (by omega))) (fun e he => (lt.2.2.2.2 e (by omega)).trans (n5 e (by omega))) ro
      exact ⟨v, En E 21132 TR, B1, B3, n, m, h1, h2, rfl, Rl_sc R1 h3⟩
  · have Q : RQ E B n d := ⟨F.1, ⟨by omega, b⟩, by omega, a, c, e'⟩
    obtain ⟨v, B1, B3, h1, h2, lt, h3, Q1⟩ := hq d Q dd
    have R1 : Rl E K B1 n m i := Rl_lx H Ex_rfl (fun e he => lt.1 e (by omega)) (fun e he => lt.2.1 e (by omega)) (fun e j he q => congrFun (lt.2.2.1 e (by omega)) j) (fun e he => lt.2.2.2.1 e (by omega)) (fun e he => lt.2.2.2.2 e (by omega)) ⟨c84, Or.inr ⟨d, Q1.2.2.2.1, b, c, Q1.2.2.2.2.2, f1, g1⟩⟩
    exact ⟨v, E, B1, B3, n, m, h1, h2, rfl, Rl_sc R1 h3⟩
end STP
