/-! each kind of call, and what it keeps of the relation -/
section FRM
variable {E E' : Ev} {B C : Bk} {n m i d c : Nat} {K : Nat → Nat}
theorem W_sc (h : sc B C) : WT B C ∧ WS B C ∧ WM B C ∧ WK B C ∧ WO c B C := by
  have hco : co = 0 := rfl
  have hmo : mo = 58 := rfl
  obtain ⟨h1, h2, h3, h4, h5⟩ := h
  refine ⟨⟨⟨h1 co 10 (fun q => absurd q (by omega)), h1 mo 6 (fun _ => Or.inl rfl), h1 mo 14 (fun _ => Or.inr (Or.inl rfl)), h1 mo 15 (fun _ => Or.inr (Or.inr rfl))⟩, fun j => h1 (co + 2) j (fun q => absurd q (by omega)), fun z => h4 (co + 1) z (by unfold mscr; omega), fun z => h4 (mo + 5) z (by unfold mscr; omega)⟩, ⟨fun d j a b => h1 d j (fun q => absurd q (by omega)), fun d z a => h4 d z (by unfold mscr; omega), fun d z a => h5 d z (by unfold mscr; omega)⟩, ⟨fun d j a b => h1 d j (fun q => absurd q (by omega)), fun d z a z0 => h4 d z (by unfold mscr; omega), fun d z a b c _ _ => h4 d z (by unfold mscr; omega)⟩, ⟨fun j => by rw [h3], fun j => by rw [h3], by rw [h3]⟩, fun e a b => ⟨funext fun j => h1 e j (fun q => absurd q (by omega)), funext fun j => h2 e j (by omega), by rw [h3], funext fun z => h4 e z (by unfold mscr; omega), funext fun z => h5 e z (by unfold mscr; omega)⟩⟩
theorem W_fr (hn : n = 20 ∨ n = 26) (h : fr n B C) : WT B C ∧ WS B C ∧ WM B C ∧ WK B C ∧ WO c B C := by
  have hco : co = 0 := rfl
  have hmo : mo = 58 := rfl
  obtain ⟨h1, h2, h3, h4, h5⟩ := h
  have bz : ∀ d, d < mo + 6 ∨ mo + 13 < d ∨ d = mo + 9 → bsz d = 0 := fun d q => bsz_0 q
  refine ⟨⟨⟨h1 co 10 (by omega) (fun _ => ⟨by omega, by omega⟩) (fun q => absurd q (by omega)), h1 mo 6 (by omega) (fun q => absurd q (by omega)) (fun _ => Or.inl rfl), h1 mo 14 (by omega) (fun q => absurd q (by omega)) (fun _ => Or.inr (Or.inl rfl)), h1 mo 15 (by omega) (fun q => absurd q (by omega)) (fun _ => Or.inr (Or.inr rfl))⟩, fun j => h1 (co + 2) j (by omega) (fun q => absurd q (by omega)) (fun q => absurd q (by omega)), fun z => h4 (co + 1) z (by unfold mscr; omega) (by omega) (Or.inl (bz _ (by omega))), fun z => h4 (mo + 5) z (by unfold mscr; omega) (by omega) (Or.inl (bz _ (by omega)))⟩, ⟨fun d j a b => h1 d j (by omega) (fun q => absurd q (by omega)) (fun q => absurd q (by omega)), fun d z a => h4 d z (by unfold mscr; omega) (by omega) (Or.inl (bz _ (by omega))), fun d z a => h5 d z (by unfold mscr; omega)⟩, ⟨fun d j a b => h1 d j (by omega) (fun q => absurd q (by omega)) (fun q => absurd q (by omega)), fun d z a z0 => h4 d z (by unfold mscr; omega) (by omega) (Or.inl (bz _ (by omega))), fun d z a b c e _ => h4 d z (by unfold mscr; omega) (by omega) (Or.inr e)⟩, ⟨fun j => by rw [h3], fun j => by rw [h3], by rw [h3]⟩, fun e a b => ⟨funext fun j => h1 e j (by omega) (fun q => absurd q (by omega)) (fun q => absurd q (by omega)), funext fun j => h2 e j (by omega), by rw [h3], funext fun z => h4 e z (by unfold mscr; omega) (by omega) (Or.inl (bz _ (by omega))), funext fun z => h5 e z (by unfold mscr; omega)⟩⟩
theorem W_fF (hm : m = 20 ∨ m = 26) (h : fF m B C) : WT B C ∧ WS B C ∧ WM B C ∧ WK B C ∧ WO c B C := by
  have hco : co = 0 := rfl
  have hmo : mo = 58 := rfl
  obtain ⟨h1, h2, h3, h4, h5⟩ := h
  refine ⟨⟨⟨h1 co 10 (fun _ => by omega) (by omega) (by omega) (by omega) (fun q => absurd q (by omega)), h1 mo 6 (fun q => absurd q (by omega)) (by omega) (by omega) (by omega) (fun _ => Or.inl rfl), h1 mo 14 (fun q => absurd q (by omega)) (by omega) (by omega) (by omega) (fun _ => Or.inr (Or.inl rfl)), h1 mo 15 (fun q => absurd q (by omega)) (by omega) (by omega) (by omega) (fun _ => Or.inr (Or.inr rfl))⟩, fun j => h1 (co + 2) j (fun q => absurd q (by omega)) (by omega) (by omega) (by omega) (fun q => absurd q (by omega)), fun z => h4 (co + 1) z (by unfold mscr; omega) (by omega) (by omega) (by omega), fun z => h4 (mo + 5) z (by unfold mscr; omega) (by omega) (by omega) (by omega)⟩, ⟨fun d j a b => h1 d j (fun q => absurd q (by omega)) (by omega) (by omega) (by omega) (fun q => absurd q (by omega)), fun d z a => h4 d z (by unfold mscr; omega) (by omega) (by omega) (by omega), fun d z a => h5 d z (by unfold mscr; omega)⟩, ⟨fun d j a b => h1 d j (fun q => absurd q (by omega)) (by omega) (by omega) (by omega) (fun q => absurd q (by omega)), fun d z a z0 => h4 d z (by unfold mscr; omega) (by omega) (by omega) (by omega), fun d z a b c _ _ => h4 d z (by unfold mscr; omega) (by omega) (by omega) (by omega)⟩, ⟨fun j => h3 _ j (by omega) (by omega), fun j => h3 _ j (by omega) (by omega), h3 _ _ (by omega) (by omega)⟩, fun e a b => ⟨funext fun j => h1 e j (fun q => absurd q (by omega)) (by omega) (by omega) (by omega) (fun q => absurd q (by omega)), funext fun j => h2 e j (by omega) (by omega) (by omega), funext fun j => h3 e j (by omega) (by omega), funext fun z => h4 e z (by unfold mscr; omega) (by omega) (by omega) (by omega), funext fun z => h5 e z (by unfold mscr; omega)⟩⟩
theorem W_fI (h : fI B C) : WT B C ∧ WS B C ∧ WK B C ∧ WO c B C := by
  have hco : co = 0 := rfl
  have hmo : mo = 58 := rfl
  obtain ⟨h1, h2, h3, h4, h5⟩ := h
  have bz : ∀ d, d < mo + 6 ∨ mo + 13 < d ∨ d = mo + 9 → bsz d = 0 := fun d q => bsz_0 q
  refine ⟨⟨⟨h1 co 10 (by omega) (fun q => absurd q (by omega)), h1 mo 6 (by omega) (fun _ => Or.inl rfl), h1 mo 14 (by omega) (fun _ => Or.inr (Or.inl rfl)), h1 mo 15 (by omega) (fun _ => Or.inr (Or.inr rfl))⟩, fun j => h1 (co + 2) j (by omega) (fun q => absurd q (by omega)), fun z => h4 (co + 1) z (by unfold mscr; omega) (by omega) (by omega) (by omega) (Or.inl (bz _ (by omega))), fun z => h4 (mo + 5) z (by unfold mscr; omega) (by omega) (by omega) (by omega) (Or.inl (bz _ (by omega)))⟩, ⟨fun d j a b => h1 d j (by omega) (fun q => absurd q (by omega)), fun d z a => h4 d z (by unfold mscr; omega) (by omega) (by omega) (by omega) (Or.inl (bz _ (by omega))), fun d z a => h5 d z (by unfold mscr; omega)⟩, ⟨fun j => by rw [h3], fun j => by rw [h3], by rw [h3]⟩, fun e a b => ⟨funext fun j => h1 e j (by omega) (fun q => absurd q (by omega)), funext fun j => h2 e j (by omega), by rw [h3], funext fun z => h4 e z (by unfold mscr; omega) (by omega) (by omega) (by omega) (Or.inl (bz _ (by omega))), funext fun z => h5 e z (by unfold mscr; omega)⟩⟩
theorem W_frR (h : frR B C) : WT B C ∧ WM B C ∧ WK B C ∧ WO c B C := by
  have hco : co = 0 := rfl
  have hmo : mo = 58 := rfl
  obtain ⟨h1, h2, h3, h4, h5⟩ := h
  refine ⟨⟨⟨h1 co 10 (by omega) (fun q => absurd q (by omega)), h1 mo 6 (by omega) (fun _ => Or.inl rfl), h1 mo 14 (by omega) (fun _ => Or.inr (Or.inl rfl)), h1 mo 15 (by omega) (fun _ => Or.inr (Or.inr rfl))⟩, fun j => h1 (co + 2) j (by omega) (fun q => absurd q (by omega)), fun z => h4 (co + 1) z (by unfold mscr; omega) (by omega) (by omega), fun z => h4 (mo + 5) z (by unfold mscr; omega) (by omega) (by omega)⟩, ⟨fun d j a b => h1 d j (by omega) (fun q => absurd q (by omega)), fun d z a z0 => h4 d z (by unfold mscr; omega) (by omega) (by omega), fun d z a b c _ _ => h4 d z (by unfold mscr; omega) (by omega) (by omega)⟩, ⟨fun j => by rw [h3], fun j => by rw [h3], by rw [h3]⟩, fun e a b => ⟨funext fun j => h1 e j (by omega) (fun q => absurd q (by omega)), funext fun j => h2 e j (by omega), by rw [h3], funext fun z => h4 e z (by unfold mscr; omega) (by omega) (by omega), funext fun z => h5 e z (by unfold mscr; omega) (by omega) (by omega)⟩⟩
theorem W_frT (h : frT B C) : WS B C ∧ WM B C ∧ WK B C ∧ WO c B C := by
  have hco : co = 0 := rfl
  have hmo : mo = 58 := rfl
  obtain ⟨h1, h2, h3, h4, h5⟩ := h
  refine ⟨⟨fun d j a b => h1 d j (fun q => absurd q (by omega)) (fun q => absurd q (by omega)), fun d z a => h4 d z (by unfold mscr; omega) (by omega) (by omega), fun d z a => h5 d z (by unfold mscr; omega)⟩, ⟨fun d j a b => h1 d j (fun q => absurd q (by omega)) (fun q => absurd q (by omega)), fun d z a z0 => h4 d z (by unfold mscr; omega) (by omega) (by omega), fun d z a b c _ _ => h4 d z (by unfold mscr; omega) (by omega) (by omega)⟩, ⟨fun j => by rw [h3], fun j => by rw [h3], by rw [h3]⟩, fun e a b => ⟨funext fun j => h1 e j (fun q => absurd q (by omega)) (fun q => absurd q (by omega)), funext fun j => h2 e j (by omega), by rw [h3], funext fun z => h4 e z (by unfold mscr; omega) (by omega) (by omega), funext fun z => h5 e z (by unfold mscr; omega)⟩⟩
theorem W_fV (hm : m = 20 ∨ m = 26) (h : fV m B C) : WS B C ∧ WM B C ∧ WK B C ∧ WO c B C := by
  have hco : co = 0 := rfl
  have hmo : mo = 58 := rfl
  obtain ⟨h1, h2, h3, h4, h5⟩ := h
  have bz : ∀ d, d < mo + 6 ∨ mo + 13 < d ∨ d = mo + 9 → bsz d = 0 := fun d q => bsz_0 q
  refine ⟨⟨fun d j a b => h1 d j (by omega) (by omega) (fun q => absurd q (by omega)) (fun q => absurd q (by omega)), fun d z a => h4 d z (by unfold mscr; omega) (by omega) (Or.inl (bz _ (by omega))), fun d z a => h5 d z (by unfold mscr; omega)⟩, ⟨fun d j a b => h1 d j (by omega) (by omega) (fun q => absurd q (by omega)) (fun q => absurd q (by omega)), fun d z a z0 => h4 d z (by unfold mscr; omega) (by omega) (Or.inl (bz _ (by omega))), fun d z a b c e f => h4 d z (by unfold mscr; omega) (by omega) (Or.inr ⟨e, f⟩)⟩, ⟨fun j => h3 _ j (by omega) (fun q => absurd q (by omega)), fun j => h3 _ j (by omega) (fun q => absurd q (by omega)), h3 _ _ (by omega) (fun _ => ⟨by omega, by omega⟩)⟩, fun e a b => ⟨funext fun j => h1 e j (by omega) (by omega) (fun q => absurd q (by omega)) (fun q => absurd q (by omega)), funext fun j => h2 e j (by omega), funext fun j => h3 e j (by omega) (fun q => absurd q (by omega)), funext fun z => h4 e z (by unfold mscr; omega) (by omega) (Or.inl (bz _ (by omega))), funext fun z => h5 e z (by unfold mscr; omega)⟩⟩
theorem W_scG (hc : 84 ≤ c) (h : scG c B C) : WT B C ∧ WS B C ∧ WM B C ∧ WK B C ∧ WO c B C := by
  have hco : co = 0 := rfl
  have hmo : mo = 58 := rfl
  obtain ⟨h1, h2, h3, h4, h5⟩ := h
  refine ⟨⟨⟨h1 co 10 (by omega) (fun q => absurd q (by omega)), h1 mo 6 (by omega) (fun _ => Or.inl rfl), h1 mo 14 (by omega) (fun _ => Or.inr (Or.inl rfl)), h1 mo 15 (by omega) (fun _ => Or.inr (Or.inr rfl))⟩, fun j => h1 (co + 2) j (by omega) (fun q => absurd q (by omega)), fun z => h4 (co + 1) z (by omega) (by unfold mscr; omega), fun z => h4 (mo + 5) z (by omega) (by unfold mscr; omega)⟩, ⟨fun d j a b => h1 d j (by omega) (fun q => absurd q (by omega)), fun d z a => h4 d z (by omega) (by unfold mscr; omega), fun d z a => h5 d z (by omega) (by unfold mscr; omega)⟩, ⟨fun d j a b => h1 d j (by omega) (fun q => absurd q (by omega)), fun d z a z0 => h4 d z (by omega) (by unfold mscr; omega), fun d z a b c _ _ => h4 d z (by omega) (by unfold mscr; omega)⟩, ⟨fun j => h3 _ j (by omega), fun j => h3 _ j (by omega), h3 _ _ (by omega)⟩, fun e a b => ⟨funext fun j => h1 e j (by omega) (fun q => absurd q (by omega)), funext fun j => h2 e j (by omega) (by omega), funext fun j => h3 e j (by omega), funext fun z => h4 e z (by omega) (by unfold mscr; omega), funext fun z => h5 e z (by omega) (by unfold mscr; omega)⟩⟩
/-- put together again -/
theorem Rl_of {n' m' : Nat} (H : Rl E K B n m i) (F : FB E C n' m') (nm : (n' = 20 ∧ m' = 26) ∨ (n' = 26 ∧ m' = 20)) (k : WK B C) (rs : RS C) (im : IM C) (t : rTp C ∧ rT2 C) (dd : DDm n' C ∧ ∀ k : Nat, k < 3 → C.2.2.2.1 (co + 18) k = 1 → DDm (32 + 6 * k) C) (er : C.1 co 12 = B.1 co 12 ∨ C.1 co 12 = B.1 co 12 + 1) (ro : RO E C n' (i + 1)) : Rl E K C n' m' (i + 1) := by
  obtain ⟨S, -, -, ⟨rk, -⟩, ⟨ik, -⟩, -, kd, -, e, -⟩ := H
  exact ⟨S, F, nm, ⟨(K_to k).1 rk, rs⟩, ⟨(K_to k).2 ik, im⟩, t, kd, dd, by omega, ro⟩
theorem Rl_sc (H : Rl E K B n m i) (h : sc B C) : Rl E K C n m (i + 1) := by
  have hco : co = 0 := rfl
  have hmo : mo = 58 := rfl
  obtain ⟨h5, h6⟩ := Rl_d5 H
  have H' := H
  obtain ⟨-, F, nm, ⟨-, rs⟩, ⟨-, im⟩, t, -, ⟨dd, di⟩, -, ro⟩ := H'
  obtain ⟨wt, ws, wm, wk, wo⟩ := W_sc (c := E.2.2.2.1) h
  have ec : C.1 co 12 = B.1 co 12 := h.1 co 12 (fun q => absurd q (by omega))
  have ev : vyN C n = vyN B n := vyN_eq (sc_n h (by omega)) (fun k z a b => sc_r h (by omega) z)
  exact Rl_of H (sc_FB h F) nm wk (S_to ws rs) (M_to wm im) (T_to wt t) ⟨DDm_to (sc_n h (by omega) 9) h5 (fun z _ _ => sc_r h (by omega) z) dd, Dim_to wm di h6⟩ (Or.inl ec) (RO_to wo wk.2.2 ev ec ro)
theorem Rl_fF (H : Rl E K B n m i) (h : fF m B C) (F : FB E C n m) : Rl E K C n m (i + 1) := by
  have hco : co = 0 := rfl
  have hmo : mo = 58 := rfl
  obtain ⟨h5, h6⟩ := Rl_d5 H
  have H' := H
  obtain ⟨-, -, nm, ⟨-, rs⟩, ⟨-, im⟩, t, -, ⟨dd, di⟩, -, ro⟩ := H'
  obtain ⟨wt, ws, wm, wk, wo⟩ := W_fF (c := E.2.2.2.1) (by omega) h
  have ec : C.1 co 12 = B.1 co 12 := h.1 co 12 (fun _ => by omega) (by omega) (by omega) (by omega) (fun q => absurd q (by omega))
  have ev : vyN C n = vyN B n := fF_vy h (by omega) (by omega) (by omega)
  exact Rl_of H F nm wk (S_to ws rs) (M_to wm im) (T_to wt t) ⟨DDm_to (fF_n h (by omega) (by omega) (by omega) 9) h5 (fun z _ _ => fF_r (n := n) h (by omega) (by omega) (by omega) (by omega) (by omega) z) dd, Dim_to wm di h6⟩ (Or.inl ec) (RO_to wo wk.2.2 ev ec ro)
theorem Rl_frR (H : Rl E K B n m i) (h : frR B C) (rs : RS C) : Rl E K C n m (i + 1) := by
  have hco : co = 0 := rfl
  have hmo : mo = 58 := rfl
  obtain ⟨h5, h6⟩ := Rl_d5 H
  have H' := H
  obtain ⟨-, F, nm, -, ⟨-, im⟩, t, -, ⟨dd, di⟩, -, ro⟩ := H'
  obtain ⟨wt, wm, wk, wo⟩ := W_frR (c := E.2.2.2.1) h
  obtain ⟨h1, h2, h3, h4, h7⟩ := h
  have ec : C.1 co 12 = B.1 co 12 := h1 co 12 (by omega) (fun q => absurd q (by omega))
  have en : ∀ j, C.1 n j = B.1 n j := fun j => h1 n j (by omega) (fun q => absurd q (by omega))
  have er : ∀ k z, n < k → k ≤ n + 5 → C.2.2.2.1 k z = B.2.2.2.1 k z := fun k z a b => h4 k z (by unfold mscr; omega) (by omega) (by omega)
  have ev : vyN C n = vyN B n := vyN_eq en (fun k z a b => er k z a (by omega))
  exact Rl_of H (FB_to F (h1 co 11 (by omega) (fun q => absurd q (by omega))) en (fun d j _ => by rw [h3]) er (fun k z a b => h4 k z (by unfold mscr; omega) (by omega) (by omega)) (h2 3 7 (by omega)) (h2 10 7 (by omega)) (fun k z a b c _ _ => h4 k z (by unfold mscr; omega) (by omega) (by omega))) nm wk rs (M_to wm im) (T_to wt t) ⟨DDm_to (en 9) h5 (fun z _ _ => er _ z (by omega) (by omega)) dd, Dim_to wm di h6⟩ (Or.inl ec) (RO_to wo wk.2.2 ev ec ro)
theorem Rl_frT (H : Rl E K B n m i) (h : frT B C) (t : rTp C ∧ rT2 C) : Rl E K C n m (i + 1) := by
  have hco : co = 0 := rfl
  have hmo : mo = 58 := rfl
  obtain ⟨h5, h6⟩ := Rl_d5 H
  have H' := H
  obtain ⟨-, F, nm, ⟨-, rs⟩, ⟨-, im⟩, -, -, ⟨dd, di⟩, -, ro⟩ := H'
  obtain ⟨ws, wm, wk, wo⟩ := W_frT (c := E.2.2.2.1) h
  obtain ⟨h1, h2, h3, h4, h7⟩ := h
  have ec : C.1 co 12 = B.1 co 12 := h1 co 12 (fun _ => by omega) (fun q => absurd q (by omega))
  have en : ∀ j, C.1 n j = B.1 n j := fun j => h1 n j (fun q => absurd q (by omega)) (fun q => absurd q (by omega))
  have er : ∀ k z, n < k → k ≤ n + 5 → C.2.2.2.1 k z = B.2.2.2.1 k z := fun k z a b => h4 k z (by unfold mscr; omega) (by omega) (by omega)
  have ev : vyN C n = vyN B n := vyN_eq en (fun k z a b => er k z a (by omega))
  exact Rl_of H (FB_to F (h1 co 11 (fun _ => by omega) (fun q => absurd q (by omega))) en (fun d j _ => by rw [h3]) er (fun k z a b => h4 k z (by unfold mscr; omega) (by omega) (by omega)) (h2 3 7 (by omega)) (h2 10 7 (by omega)) (fun k z a b c _ _ => h4 k z (by unfold mscr; omega) (by omega) (by omega))) nm wk (S_to ws rs) (M_to wm im) t ⟨DDm_to (en 9) h5 (fun z _ _ => er _ z (by omega) (by omega)) dd, Dim_to wm di h6⟩ (Or.inl ec) (RO_to wo wk.2.2 ev ec ro)
theorem Rl_fI (H : Rl E K B n m i) (h : fI B C) (im : IM C) (dm : ∀ k : Nat, k < 3 → C.2.2.2.1 (co + 18) k = 1 → DIm B C n k) : Rl E K C n m (i + 1) := by
  have hco : co = 0 := rfl
  have hmo : mo = 58 := rfl
  obtain ⟨h5, h6⟩ := Rl_d5 H
  have H' := H
  obtain ⟨-, F, nm, ⟨-, rs⟩, -, t, -, ⟨dd, di⟩, -, ro⟩ := H'
  obtain ⟨wt, ws, wk, wo⟩ := W_fI (c := E.2.2.2.1) h
  obtain ⟨h1, h2, h3, h4, h7⟩ := h
  have bz : ∀ d, d < mo + 6 ∨ mo + 13 < d ∨ d = mo + 9 → bsz d = 0 := fun d q => bsz_0 q
  have ec : C.1 co 12 = B.1 co 12 := h1 co 12 (by omega) (fun q => absurd q (by omega))
  have en : ∀ j, C.1 n j = B.1 n j := fun j => h1 n j (by omega) (fun q => absurd q (by omega))
  have er : ∀ k z, n < k → k ≤ n + 5 → C.2.2.2.1 k z = B.2.2.2.1 k z := fun k z a b => h4 k z (by unfold mscr; omega) (by omega) (by omega) (by omega) (Or.inl (bz _ (by omega)))
  have ev : vyN C n = vyN B n := vyN_eq en (fun k z a b => er k z a (by omega))
  refine Rl_of H (FB_to F (h1 co 11 (by omega) (fun q => absurd q (by omega))) en (fun d j _ => by rw [h3]) er (fun k z a b => h4 k z (by unfold mscr; omega) (by omega) (by omega) (by omega) (Or.inl (bz _ (by omega)))) (h2 3 7 (by omega)) (h2 10 7 (by omega)) (fun k z a b c _ e => h4 k z (by unfold mscr; omega) (by omega) (by omega) (by omega) (Or.inr e))) nm wk (S_to ws rs) im (T_to wt t) ⟨DDm_to (en 9) h5 (fun z _ _ => er _ z (by omega) (by omega)) dd, fun k hk q => ?_⟩ (Or.inl ec) (RO_to wo wk.2.2 ev ec ro)
  rcases dm k hk q with ⟨a, b, c⟩ | ⟨b, c⟩
  · exact DDm_to b (h6 k hk a) c (di k hk a)
  · exact DDm_to b h5 c dd
theorem Rl_fV (H : Rl E K B n m i) (h : fV m B C) (t : rTp C ∧ rT2 C) (g : (FB E C n m ∧ C.1 co 11 = B.1 co 11 ∧ C.1 co 12 = B.1 co 12 ∧ vyN C n = vyN B n) ∨ (FB E C m n ∧ C.1 co 11 = 0 ∧ C.1 co 12 = B.1 co 12 + 1 ∧ DDm m C)) : ∃ n' m', Rl E K C n' m' (i + 1) := by
  have hco : co = 0 := rfl
  have hmo : mo = 58 := rfl
  obtain ⟨h5, h6⟩ := Rl_d5 H
  have H' := H
  obtain ⟨-, F, nm, ⟨-, rs⟩, ⟨-, im⟩, -, -, ⟨dd, di⟩, -, ro⟩ := H'
  obtain ⟨ws, wm, wk, wo⟩ := W_fV (c := E.2.2.2.1) (by omega) h
  rcases g with ⟨F2, -, ec, ev⟩ | ⟨F2, -, ec, dd2⟩
  · have e9 : C.1 n 9 = B.1 n 9 := congrFun (congrArg Prod.fst ev) 9
    have er : ∀ z : Int, C.2.2.2.1 (n + 3) (z / 3 * 3 + z % 3) = B.2.2.2.1 (n + 3) (z / 3 * 3 + z % 3) := fun z => congrFun (congrFun (congrArg (fun V : Vy => V.2.2.2.1) ev) (z / 3)) (z % 3)
    refine ⟨n, m, Rl_of H F2 nm wk (S_to ws rs) (M_to wm im) t ⟨DDm_to e9 h5 (fun z _ _ => ?_) dd, Dim_to wm di h6⟩ (Or.inl ec) (RO_to wo wk.2.2 ev ec ro)⟩
    have := er z
    rw [show z / 3 * 3 + z % 3 = z by omega] at this
    exact this
  · exact ⟨m, n, Rl_of H F2 (by omega) wk (S_to ws rs) (M_to wm im) t ⟨dd2, Dim_to wm di h6⟩ (Or.inr ec) (RO_up wo wk.2.2 ec ro)⟩
theorem Rl_scG (H : Rl E K B n m i) (x : Ex E E') (hc : E'.2.2.2.1 ≤ E.2.2.2.1 + 1) (hs : E'.2.2.2.2 ≤ E.2.2.2.2 + 5) (h : scG E.2.2.2.1 B C) : Rl E' K C n m (i + 1) := by
  have hco : co = 0 := rfl
  have hmo : mo = 58 := rfl
  obtain ⟨h5, h6⟩ := Rl_d5 H
  obtain ⟨S, F, nm, ⟨rk, rs⟩, ⟨ik, im⟩, t, kd, ⟨dd, di⟩, e, ro⟩ := H
  have c84 : 84 ≤ E.2.2.2.1 := ro.1
  obtain ⟨wt, ws, wm, wk, wo⟩ := W_scG c84 h
  obtain ⟨h1, h2, h3, h4, h7⟩ := h
  have ec : C.1 co 12 = B.1 co 12 := h1 co 12 (by omega) (fun q => absurd q (by omega))
  have en : ∀ j, C.1 n j = B.1 n j := fun j => h1 n j (by omega) (fun q => absurd q (by omega))
  have er : ∀ k z, n < k → k ≤ n + 5 → C.2.2.2.1 k z = B.2.2.2.1 k z := fun k z a b => h4 k z (by omega) (by unfold mscr; omega)
  have ev : vyN C n = vyN B n := vyN_eq en (fun k z a b => er k z a (by omega))
  have F2 := FB_to F (h1 co 11 (by omega) (fun q => absurd q (by omega))) en (fun d j _ => h3 d j (by omega)) er (fun k z a b => h4 k z (by omega) (by unfold mscr; omega)) (h2 3 7 (by omega) (by omega)) (h2 10 7 (by omega) (by omega)) (fun k z a b c _ _ => h4 k z (by omega) (by unfold mscr; omega))
  refine ⟨STR_x x S, FB_x x F2, nm, ⟨RK_x x ((K_to wk).1 rk), S_to ws rs⟩, ⟨IK_x x ((K_to wk).2 ik), M_to wm im⟩, T_to wt t, ⟨KD_x x kd.1, KD_x x kd.2⟩, ⟨DDm_to (en 9) h5 (fun z _ _ => er _ z (by omega) (by omega)) dd, Dim_to wm di h6⟩, by omega, ?_⟩
  obtain ⟨r0, r | ⟨d, a, b, c, e', f, g⟩⟩ := ro
  · exact ⟨Nat.le_trans r0 x.2.2.1, Or.inl ⟨wk.2.2.trans r.1, by omega, by omega⟩⟩
  · exact ⟨Nat.le_trans r0 x.2.2.1, Or.inr ⟨d, wk.2.2.trans a, b, RKD_x x c, RMB_to wo b (RKD_lt c) ev ec e', by omega, by omega⟩⟩
/-- the Roamer's cells alone have changed, or are new -/
theorem Rl_lx (H : Rl E K B n m i) (x : Ex E E') (h1 : ∀ e, e < 84 → C.1 e = B.1 e) (h2 : ∀ e, e < 84 → C.2.1 e = B.2.1 e) (h3 : ∀ e j, e < 84 → ¬ (e = co ∧ j = 9) → C.2.2.1 e j = B.2.2.1 e j) (h4 : ∀ e, e < 84 → C.2.2.2.1 e = B.2.2.2.1 e) (h7 : ∀ e, e < 84 → C.2.2.2.2 e = B.2.2.2.2 e) (ro : RO E' C n i) : Rl E' K C n m i := by
  have hco : co = 0 := rfl
  have hmo : mo = 58 := rfl
  obtain ⟨h5, h6⟩ := Rl_d5 H
  obtain ⟨S, F, nm, ⟨rk, rs⟩, ⟨ik, im⟩, t, kd, ⟨dd, di⟩, e, -⟩ := H
  have i1 : ∀ e j, e < 84 → C.1 e j = B.1 e j := fun e j q => by rw [h1 e q]
  have i4 : ∀ e z, e < 84 → C.2.2.2.1 e z = B.2.2.2.1 e z := fun e z q => by rw [h4 e q]
  have i7 : ∀ e z, e < 84 → C.2.2.2.2 e z = B.2.2.2.2 e z := fun e z q => by rw [h7 e q]
  have wt : WT B C := ⟨⟨i1 _ _ (by omega), i1 _ _ (by omega), i1 _ _ (by omega), i1 _ _ (by omega)⟩, fun j => i1 _ _ (by omega), fun z => i4 _ _ (by omega), fun z => i4 _ _ (by omega)⟩
  have ws : WS B C := ⟨fun d j _ _ => i1 _ _ (by omega), fun d z _ => i4 _ _ (by omega), fun d z _ => i7 _ _ (by omega)⟩
  have wm : WM B C := ⟨fun d j _ _ => i1 _ _ (by omega), fun d z _ _ => i4 _ _ (by omega), fun d z _ _ _ _ _ => i4 _ _ (by omega)⟩
  have k17 : ∀ j, C.2.2.1 (co + 17) j = B.2.2.1 (co + 17) j := fun j => h3 _ _ (by omega) (by omega)
  have k19 : ∀ j, C.2.2.1 (co + 19) j = B.2.2.1 (co + 19) j := fun j => h3 _ _ (by omega) (by omega)
  have F2 := FB_to F (i1 co 11 (by omega)) (fun j => i1 n j (by omega)) (fun d j _ => h3 d j (by omega) (by omega)) (fun k z a b => i4 k z (by omega)) (fun k z a b => i4 k z (by omega)) (by rw [h2 3 (by omega)]) (by rw [h2 10 (by omega)]) (fun k z a b c _ _ => i4 k z (by omega))
  refine ⟨STR_x x S, FB_x x F2, nm, ⟨RK_x x ⟨rk.1, rk.2.1, rk.2.2.1, fun k hk => ⟨(rk.2.2.2 k hk).1, (rk.2.2.2 k hk).2.1, (k19 k).trans (rk.2.2.2 k hk).2.2⟩⟩, S_to ws rs⟩, ⟨IK_x x ⟨ik.1, ik.2.1, fun k hk => ⟨(ik.2.2 k hk).1, (k17 k).trans (ik.2.2 k hk).2⟩⟩, M_to wm im⟩, T_to wt t, ⟨KD_x x kd.1, KD_x x kd.2⟩, ⟨DDm_to (i1 n 9 (by omega)) h5 (fun z _ _ => i4 _ _ (by omega)) dd, Dim_to wm di h6⟩, by rw [i1 co 12 (by omega)]; exact e, ro⟩
end FRM
