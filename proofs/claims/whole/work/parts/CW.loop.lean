/-! the law's loop: both answer alike to every call -/
theorem xI_at {N k : Nat} {xs : Nat → Int32} (h : k < N) (hN : N ≤ 3584) : xI N xs (iI (k : Int)) = some (xs k) := by
  have cl := iI_cl (z := (k : Int)) (n := N) (by omega) (by omega) (by omega)
  have e : (iI (k : Int)).toNatClampNeg = k := by omega
  unfold xI
  rw [if_pos cl.1, e]
theorem xI_k {N k : Nat} {xs : Nat → Int32} (j : Nat) (h : k + j < N) (hN : N ≤ 3584) : xI N xs (iI (k : Int) + iI (j : Int)) = some (xs (k + j)) := by
  rw [iI_add, show (k : Int) + (j : Int) = ((k + j : Nat) : Int) by omega, xI_at h hN]
def PX (K : Nat → Nat) (b j : Nat) (o : Option ((Int32 × Hp) ⊕ (Hp ⊕ Hp))) : Prop := ∃ E B n m, o = some (.inl (iI ((7 * (j + 1) : Nat) : Int), St E B)) ∧ E.1 = b ∧ Rl E K B n m (j + 1)
section LWL
variable {E : Ev} {K : Nat → Nat} {B : Bk} {n m j b N : Nat} {xs : Nat → Int32} {x1 x2 : Nat}
theorem PX_ite {c : Prop} [Decidable c] {X Y : Option ((Int32 × Hp) ⊕ (Hp ⊕ Hp))} (h1 : c → PX K b j X) (h2 : ¬ c → PX K b j Y) : PX K b j (if c then X else Y) := by
  by_cases h : c
  · rw [if_pos h]
    exact h1 h
  · rw [if_neg h]
    exact h2 h
theorem PX_b (h : E.1 = b) (H : Rl E K B n m (j + 1)) : PX K b j (fL_law_b2428 N xs K x1 x2 (iI ((7 * j : Nat) : Int)) (St E B)) := ⟨E, B, n, m, by
  unfold fL_law_b2428
  rw [iI_add, show ((7 * j : Nat) : Int) + 7 = ((7 * (j + 1) : Nat) : Int) by omega], h, H⟩
theorem PX_I {f g : Hp → Option (Int32 × Hp)} (q : SQ E K B j f g) : PX K E.1 j ((f (St E B)).bind fun r => (g r.2).bind fun r' => if r.1 = r'.1 then fL_law_b2428 N xs K x1 x2 (iI ((7 * j : Nat) : Int)) r'.2 else some (.inr (.inr r'.2))) := by
  obtain ⟨v, E', B1, B2, n', m', h1, h2, h3, h4⟩ := q
  rw [h1, some_bind]
  dsimp only
  rw [h2, some_bind]
  dsimp only
  rw [if_pos rfl]
  exact PX_b h3 h4
theorem PX_L {f g : Hp → Option (Int64 × Hp)} (q : SQ E K B j f g) : PX K E.1 j ((f (St E B)).bind fun r => (g r.2).bind fun r' => if lg_cmp r.1 r'.1 = 0 then fL_law_b2428 N xs K x1 x2 (iI ((7 * j : Nat) : Int)) r'.2 else some (.inr (.inr r'.2))) := by
  obtain ⟨v, E', B1, B2, n', m', h1, h2, h3, h4⟩ := q
  rw [h1, some_bind]
  dsimp only
  rw [h2, some_bind]
  dsimp only
  rw [if_pos (show lg_cmp v v = 0 from ((lg_0 v v).mpr rfl).trans iI_0)]
  exact PX_b h3 h4
set_option maxHeartbeats 4000000 in
set_option maxRecDepth 100000 in
theorem law_body (H : Rl E K B n m j) (hN : N ≤ 3584) (hj : 7 * j + 7 ≤ N) : PX K E.1 j (fL_law_l18 N xs K (E.1 + co) (E.1 + mo) (iI ((7 * j : Nat) : Int), St E B)) := by
  have hi : j ≤ 600 := by omega
  obtain ⟨S, F, nm, ⟨rk, rs⟩, ⟨ik, im⟩, t, kd, -, -, ro⟩ := id H
  have R := F.1
  have rc := R.1.1
  have rm := R.1.2.2.2
  have c84 := ro.1
  have n58 : n < 58 := by omega
  have n50 : n < 50 := by omega
  have n20 : 20 ≤ n := by omega
  have n26 : n ≤ 26 := by omega
  have n0 : 0 < n := by omega
  obtain ⟨z1, a1, b1, q1⟩ := iI_of (xs (7 * j + 1))
  obtain ⟨z2, a2, b2, q2⟩ := iI_of (xs (7 * j + 2))
  obtain ⟨z3, a3, b3, q3⟩ := iI_of (xs (7 * j + 3))
  obtain ⟨z4, a4, b4, q4⟩ := iI_of (xs (7 * j + 4))
  obtain ⟨z5, a5, b5, q5⟩ := iI_of (xs (7 * j + 5))
  obtain ⟨z6, a6, b6, q6⟩ := iI_of (xs (7 * j + 6))
  have h1 : i32 z1 := ⟨a1, b1⟩
  have h2 : i32 z2 := ⟨a2, b2⟩
  have h3 : i32 z3 := ⟨a3, b3⟩
  have h4 : i32 z4 := ⟨a4, b4⟩
  have h5 : i32 z5 := ⟨a5, b5⟩
  have h6 : i32 z6 := ⟨a6, b6⟩
  have e0 : xI N xs (iI ((7 * j : Nat) : Int)) = some (xs (7 * j)) := xI_at (by omega) hN
  have e1 : xI N xs (iI ((7 * j : Nat) : Int) + iI 1) = some (iI z1) := by rw [← q1]; exact xI_k 1 (by omega) hN
  have e2 : xI N xs (iI ((7 * j : Nat) : Int) + iI 2) = some (iI z2) := by rw [← q2]; exact xI_k 2 (by omega) hN
  have e3 : xI N xs (iI ((7 * j : Nat) : Int) + iI 3) = some (iI z3) := by rw [← q3]; exact xI_k 3 (by omega) hN
  have e4 : xI N xs (iI ((7 * j : Nat) : Int) + iI 4) = some (iI z4) := by rw [← q4]; exact xI_k 4 (by omega) hN
  have e5 : xI N xs (iI ((7 * j : Nat) : Int) + iI 5) = some (iI z5) := by rw [← q5]; exact xI_k 5 (by omega) hN
  have e6 : xI N xs (iI ((7 * j : Nat) : Int) + iI 6) = some (iI z6) := by rw [← q6]; exact xI_k 6 (by omega) hN
  have ex : ¬ Int32.ofNat N - iI 7 < iI ((7 * j : Nat) : Int) := by
    have e : Int32.ofNat N = iI (N : Int) := rfl
    rw [e, iI_sub, iI_lt (by omega) (by omega) (by omega) (by omega)]
    omega
  unfold fL_law_l18
  dsimp only
  rw [if_neg ex, e0, some_bind]
  generalize xs (7 * j) &&& iI 63 = w
  refine PX_ite (fun _ => ?_) (fun _ => ?_)
  · simp only [e1, e2, e3, e4, e5, some_bind]
    exact PX_I (SQ_QT H (o_feed2 rc kd.1 rm t.1 t.2))
  refine PX_ite (fun _ => ?_) (fun _ => ?_)
  · simp only [e1, some_bind]
    exact PX_I (SQ_QT H (o_end2 rc rm t.1 t.2 h1))
  refine PX_ite (fun _ => ?_) (fun _ => ?_)
  · skip
    exact PX_I (SQ_QV H (o_valley S kd.2 kd.1 F t.1 t.2))
  refine PX_ite (fun _ => ?_) (fun _ => ?_)
  · simp only [e1, some_bind]
    exact PX_I (SQ_QQ H (o_fault rc kd.2 rm t.1 h1))
  refine PX_ite (fun _ => ?_) (fun _ => ?_)
  · simp only [e1, e2, some_bind]
    exact PX_I (SQ_QQ H (o_wind R n58 h1 h2))
  refine PX_ite (fun _ => ?_) (fun _ => ?_)
  · simp only [e1, e2, some_bind]
    exact PX_I (SQ_QQ H (o_often R n58 h1 h2))
  refine PX_ite (fun _ => ?_) (fun _ => ?_)
  · simp only [e1, e2, some_bind]
    exact PX_I (SQ_QQ H (o_shop R n58 h1 h2))
  refine PX_ite (fun _ => ?_) (fun _ => ?_)
  · simp only [e1, e2, some_bind]
    exact PX_I (SQ_QF H (o_door F h1 h2))
  refine PX_ite (fun _ => ?_) (fun _ => ?_)
  · simp only [e1, e2, some_bind]
    exact PX_I (SQ_QQ H (o_act R n58 h1 h2))
  refine PX_ite (fun _ => ?_) (fun _ => ?_)
  · simp only [e1, e2, e3, some_bind]
    exact PX_I (SQ_QC H (o_plan R n0 n50 h1 h2 h3))
  refine PX_ite (fun _ => ?_) (fun _ => ?_)
  · skip
    exact PX_I (SQ_QC H (o_undo R n0 n50))
  refine PX_ite (fun _ => ?_) (fun _ => ?_)
  · simp only [e1, e2, some_bind]
    exact PX_I (SQ_QQ H (o_changed R n58 h1 h2))
  refine PX_ite (fun _ => ?_) (fun _ => ?_)
  · simp only [e1, e2, e3, some_bind]
    exact PX_I (SQ_QF H (o_where F h1 h2 h3))
  refine PX_ite (fun _ => ?_) (fun _ => ?_)
  · simp only [e1, e2, some_bind]
    exact PX_I (SQ_QF H (o_why F h1 h2))
  refine PX_ite (fun _ => ?_) (fun _ => ?_)
  · simp only [e1, some_bind]
    exact PX_I (SQ_QF H (o_vain F h1))
  refine PX_ite (fun _ => ?_) (fun _ => ?_)
  · simp only [e1, e2, some_bind]
    exact PX_I (SQ_QF H (o_blown F h1 h2))
  refine PX_ite (fun _ => ?_) (fun _ => ?_)
  · simp only [e1, e2, some_bind]
    exact PX_I (SQ_QF H (o_sales F h1 h2))
  refine PX_ite (fun _ => ?_) (fun _ => ?_)
  · simp only [e1, e2, some_bind]
    exact PX_I (SQ_QF H (o_sold F h1 h2))
  refine PX_ite (fun _ => ?_) (fun _ => ?_)
  · skip
    exact PX_I (SQ_QF H (o_money F))
  refine PX_ite (fun _ => ?_) (fun _ => ?_)
  · skip
    exact PX_I (SQ_QF H (o_richest F))
  refine PX_ite (fun _ => ?_) (fun _ => ?_)
  · simp only [e1, e2, some_bind]
    exact PX_I (SQ_QF H (o_meets F h1 h2))
  refine PX_ite (fun _ => ?_) (fun _ => ?_)
  · simp only [e1, e2, e3, some_bind]
    exact PX_I (SQ_QF H (o_over F h1 h2 h3))
  refine PX_ite (fun _ => ?_) (fun _ => ?_)
  · simp only [e1, some_bind]
    exact PX_I (SQ_QF H (o_grounded F h1))
  refine PX_ite (fun _ => ?_) (fun _ => ?_)
  · simp only [e1, e2, e3, e4, some_bind]
    exact PX_I (SQ_ro H hi (fun _ Q _ => o_least Q h1 h2 h3 h4) (fun _ _ _ N _ => n_least N h1 h2 h3 h4))
  refine PX_ite (fun _ => ?_) (fun _ => ?_)
  · simp only [e1, e2, e3, e4, some_bind]
    exact PX_I (SQ_ro H hi (fun _ Q _ => o_soonest Q h1 h2 h3 h4) (fun _ _ _ N _ => n_soonest N h1 h2 h3 h4))
  refine PX_ite (fun _ => ?_) (fun _ => ?_)
  · simp only [e1, e2, e3, e4, e5, some_bind]
    exact PX_I (SQ_ro H hi (fun _ Q _ => o_way Q h1 h2 h3 h4 h5) (fun _ _ _ N _ => n_way N h1 h2 h3 h4 h5))
  refine PX_ite (fun _ => ?_) (fun _ => ?_)
  · simp only [e1, e2, some_bind]
    exact PX_I (SQ_ro H hi (fun _ Q _ => o_spots Q h1 h2) (fun _ _ _ N _ => n_spots N h1 h2))
  refine PX_ite (fun _ => ?_) (fun _ => ?_)
  · simp only [e1, e2, some_bind]
    exact PX_I (SQ_ro H hi (fun _ Q _ => o_columns Q h1 h2) (fun _ _ _ N _ => n_columns N h1 h2))
  refine PX_ite (fun _ => ?_) (fun _ => ?_)
  · simp only [e1, e2, some_bind]
    exact PX_L (SQ_ro H hi (fun _ Q _ => o_ways Q h1 h2) (fun _ _ _ N _ => n_ways N h1 h2))
  refine PX_ite (fun _ => ?_) (fun _ => ?_)
  · simp only [e1, e2, some_bind]
    exact PX_I (SQ_ro H hi (fun _ Q dd => o_tour Q dd h1 h2) (fun _ _ _ N dd => n_tour N dd h1 h2))
  refine PX_ite (fun _ => ?_) (fun _ => ?_)
  · simp only [e1, e2, some_bind]
    exact PX_I (SQ_ro H hi (fun _ Q dd => o_done Q dd h1 h2) (fun _ _ _ N dd => n_done N dd h1 h2))
  refine PX_ite (fun _ => ?_) (fun _ => ?_)
  · simp only [e1, e2, e3, some_bind]
    exact PX_I (SQ_ro H hi (fun _ Q dd => o_doors Q dd h1 h2 h3) (fun _ _ _ N dd => n_doors N dd h1 h2 h3))
  refine PX_ite (fun _ => ?_) (fun _ => ?_)
  · simp only [e1, some_bind]
    exact PX_I (SQ_ro H hi (fun _ Q _ => o_fair Q h1) (fun _ _ _ N _ => n_fair N h1))
  refine PX_ite (fun _ => ?_) (fun _ => ?_)
  · simp only [e1, some_bind]
    exact PX_I (SQ_ro H hi (fun _ Q _ => o_aloft Q h1) (fun _ _ _ N _ => n_aloft N h1))
  refine PX_ite (fun _ => ?_) (fun _ => ?_)
  · simp only [e1, some_bind]
    exact PX_I (SQ_ro H hi (fun _ Q _ => o_lasts Q h1) (fun _ _ _ N _ => n_lasts N h1))
  refine PX_ite (fun _ => ?_) (fun _ => ?_)
  · simp only [e1, e2, some_bind]
    exact PX_I (SQ_ro H hi (fun _ Q _ => o_meet Q h1 h2) (fun _ _ _ N _ => n_meet N h1 h2))
  refine PX_ite (fun _ => ?_) (fun _ => ?_)
  · simp only [e1, e2, some_bind]
    exact PX_I (SQ_ro H hi (fun _ Q _ => o_rope Q h1 h2) (fun _ _ _ N _ => n_rope N h1 h2))
  refine PX_ite (fun _ => ?_) (fun _ => ?_)
  · simp only [e1, e2, some_bind]
    exact PX_I (SQ_QF H (o_lands F h1 h2))
  refine PX_ite (fun _ => ?_) (fun _ => ?_)
  · simp only [e1, e2, some_bind]
    exact PX_I (SQ_QF H (o_who F h1 h2))
  refine PX_ite (fun _ => ?_) (fun _ => ?_)
  · simp only [e1, e2, some_bind]
    exact PX_I (SQ_QF H (o_first F h1 h2))
  refine PX_ite (fun _ => ?_) (fun _ => ?_)
  · simp only [e1, e2, some_bind]
    exact PX_I (SQ_QF H (o_suspects F h1 h2))
  refine PX_ite (fun _ => ?_) (fun _ => ?_)
  · simp only [e1, e2, e3, e4, e5, some_bind]
    exact PX_I (SQ_QS H (o_drift R n50 h1 h2 h3 h4 h5))
  refine PX_ite (fun _ => ?_) (fun _ => ?_)
  · simp only [e1, e2, e3, e4, e5, some_bind]
    exact PX_I (SQ_QS H (o_whence R n50 h1 h2 h3 h4 h5))
  refine PX_ite (fun _ => ?_) (fun _ => ?_)
  · simp only [e1, some_bind]
    exact PX_I (SQ_QG H (o_smoke R n20 n50 rk rs c84 h1))
  refine PX_ite (fun _ => ?_) (fun _ => ?_)
  · simp only [e1, some_bind]
    exact PX_I (SQ_QG H (o_kites R n20 n50 rk rs c84 h1))
  refine PX_ite (fun _ => ?_) (fun _ => ?_)
  · simp only [e1, some_bind]
    exact PX_I (SQ_QQ H (o_known R n58 h1))
  refine PX_ite (fun _ => ?_) (fun _ => ?_)
  · simp only [e1, some_bind]
    exact PX_I (SQ_QQ H (o_price R n58 h1))
  refine PX_ite (fun _ => ?_) (fun _ => ?_)
  · simp only [e1, e2, e3, some_bind]
    exact PX_I (SQ_QF H (o_worth F h1 h2 h3))
  refine PX_ite (fun _ => ?_) (fun _ => ?_)
  · skip
    exact PX_I (SQ_QF H (o_best F))
  refine PX_ite (fun _ => ?_) (fun _ => ?_)
  · simp only [e1, some_bind]
    exact PX_I (SQ_QF H (o_other F h1))
  refine PX_ite (fun _ => ?_) (fun _ => ?_)
  · simp only [e1, e2, e3, some_bind]
    exact PX_I (SQ_QC H (o_load R n0 n50 h1 h2 h3))
  refine PX_ite (fun _ => ?_) (fun _ => ?_)
  · simp only [e1, e2, e3, some_bind]
    exact PX_I (SQ_QC H (o_turn R n0 n50 h1 h2 h3))
  refine PX_ite (fun _ => ?_) (fun _ => ?_)
  · simp only [e1, e2, e3, e4, some_bind]
    exact PX_I (SQ_QF H (o_gust F h1 h2 h3 h4))
  refine PX_ite (fun _ => ?_) (fun _ => ?_)
  · simp only [e1, e2, e3, e4, e5, e6, some_bind]
    exact PX_I (SQ_QF H (o_chance F h1 h2 h3 h4 h5 h6))
  refine PX_ite (fun _ => ?_) (fun _ => ?_)
  · simp only [e1, e2, some_bind]
    exact PX_I (SQ_QF H (o_takings F h1 h2))
  refine PX_ite (fun _ => ?_) (fun _ => ?_)
  · simp only [e1, some_bind]
    exact PX_I (SQ_QQ H (o_count R n58 rk rs t.1 h1))
  refine PX_ite (fun _ => ?_) (fun _ => ?_)
  · simp only [e1, some_bind]
    exact PX_I (SQ_QI H (o_keep R n20 n26 ik im h1))
  refine PX_ite (fun _ => ?_) (fun _ => ?_)
  · simp only [e1, some_bind]
    exact PX_I (SQ_QC H (o_back R n20 n26 ik im h1))
  refine PX_ite (fun _ => ?_) (fun _ => ?_)
  · simp only [e1, e2, e3, some_bind]
    exact PX_I (SQ_QR H (o_row rk rs h1 h2 h3))
  refine PX_ite (fun _ => ?_) (fun _ => ?_)
  · simp only [e1, e2, e3, e4, some_bind]
    exact PX_I (SQ_QR H (o_write rk rs h1 h2))
  refine PX_ite (fun _ => ?_) (fun _ => ?_)
  · simp only [e1, e2, e3, e4, e5, some_bind]
    exact PX_I (SQ_QR H (o_paste rk rs h1 h2 h3 h4 h5))
  exact PX_b rfl (Rl_sc H sc_rfl)
theorem law_loop (H : Rl E K B n m 0) (hN : N ≤ 3584) : ∃ E' B' n' m', iter (fL_law_l18 N xs K (E.1 + co) (E.1 + mo)) FU (iI 0, St E B) = some (.inl (St E' B')) ∧ E'.1 = E.1 ∧ Rl E' K B' n' m' (N / 7) := by
  obtain ⟨r, r1, E', B', n', m', r2, r3, r4⟩ := iter_acc (F := fL_law_l18 N xs K (E.1 + co) (E.1 + mo)) (fun j a => ∃ E' B' n' m', a = (iI ((7 * j : Nat) : Int), St E' B') ∧ E'.1 = E.1 ∧ Rl E' K B' n' m' j) (N / 7) (fun r => ∃ E' B' n' m', r = .inl (St E' B') ∧ E'.1 = E.1 ∧ Rl E' K B' n' m' (N / 7)) (fun j a hj q => by
    obtain ⟨E1, B1, n1, m1, rfl, e1, H1⟩ := q
    obtain ⟨E2, B2, n2, m2, w1, w2, w3⟩ := law_body (N := N) (xs := xs) H1 hN (by omega)
    rw [e1] at w1 w2
    exact ⟨_, w1, E2, B2, n2, m2, rfl, w2, w3⟩) (fun a q => by
    obtain ⟨E1, B1, n1, m1, rfl, e1, H1⟩ := q
    have ex : Int32.ofNat N - iI 7 < iI ((7 * (N / 7) : Nat) : Int) := by
      have e : Int32.ofNat N = iI (N : Int) := rfl
      rw [e, iI_sub, iI_lt (by omega) (by omega) (by omega) (by omega)]
      omega
    exact ⟨.inl (St E1 B1), if_pos ex, E1, B1, n1, m1, rfl, e1, H1⟩) (N := FU) (by show N / 7 < 1000000; omega) (a := (iI 0, St E B)) ⟨E, B, n, m, rfl, rfl, H⟩
  exact ⟨E', B', n', m', by rw [r1, r2], r3, r4⟩
end LWL
