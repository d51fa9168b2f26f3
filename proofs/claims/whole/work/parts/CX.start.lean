/-! the relation at the start; what the Statement gives of the start -/
section BG0
variable {b : Nat} {P : Nat → PC} {K : Nat → Nat}
theorem k0_ {d t n : Nat} (h : d < 84) (e : TS.getD d (99, 0) = (t, n)) : KD (Ev0 b P) d t n := ⟨h, e⟩
theorem k0_m : mKd (Ev0 b P) mo := by
  have h : ∀ k, k < 25 → TS.getD (mo + (k + 1)) (99, 0) = ((mT k).1, (mT k).2) := by decide
  exact ⟨k0_ (by decide) rfl, fun k hk => k0_ (by have : mo = 58 := rfl; omega) (h k hk)⟩
theorem k0_v {d : Nat} (h : d = 20 ∨ d = 26 ∨ d = 32 ∨ d = 38 ∨ d = 44) : VK (Ev0 b P) d := by
  rcases h with rfl | rfl | rfl | rfl | rfl <;> exact ⟨k0_ (by decide) rfl, k0_ (by decide) rfl, k0_ (by decide) rfl, k0_ (by decide) rfl, k0_ (by decide) rfl, k0_ (by decide) rfl⟩
theorem b0_i {d j : Nat} (h0 : ¬ (d = 0 ∧ j = 12)) (h1 : ¬ ((d = 2 ∧ j = 1) ∨ (d = 58 ∧ j = 15) ∨ ((d = 20 ∨ d = 26 ∨ d = 32 ∨ d = 38 ∨ d = 44) ∧ j = 10) ∨ ((d = 50 ∨ d = 52 ∨ d = 54 ∨ d = 56) ∧ j = 1))) : b0.1 d j = 0 := by
  rw [b0_1, if_neg h0, if_neg h1]
theorem b0_n {d j : Nat} (h1 : (d = 2 ∧ j = 1) ∨ (d = 58 ∧ j = 15) ∨ ((d = 20 ∨ d = 26 ∨ d = 32 ∨ d = 38 ∨ d = 44) ∧ j = 10) ∨ ((d = 50 ∨ d = 52 ∨ d = 54 ∨ d = 56) ∧ j = 1)) : b0.1 d j = -1 := by
  rw [b0_1, if_neg (by omega), if_pos h1]
theorem b0_RV : RV (Ev0 b P) b0 20 := by
  have z : ∀ j, j ≠ 10 → b0.1 20 j = 0 := fun j hj => b0_i (by omega) (by omega)
  have z10 : b0.1 20 10 = -1 := b0_n (by omega)
  have m : ∀ k z, k ≠ 1 → b0.2.2.2.1 (mo + k) z = 0 := fun k z hk => b0_4 (by have : mo = 58 := rfl; omega) z
  refine ⟨⟨k0_ (by decide) rfl, rfl, k0_v (by omega), k0_m⟩, ?_, ?_, ?_⟩
  · unfold VW
    rw [z 0 (by omega), z 1 (by omega), z 2 (by omega), z 3 (by omega), z 4 (by omega), z 5 (by omega), z 6 (by omega), z 7 (by omega), z 8 (by omega), z 9 (by omega)]
    omega
  · unfold VR
    rw [z 0 (by omega), z 3 (by omega), z 4 (by omega), z 8 (by omega), z 9 (by omega), z 13 (by omega), z10]
    refine ⟨m 6 _ (by omega), fun k hk => ?_, m 7 _ (by omega), fun l h a b => by omega, fun s k a b => by omega, fun i k a b => by omega, fun s h a b => by omega, fun i k a b => by omega, Or.inl ⟨rfl, m 7 _ (by omega)⟩⟩
    rw [z (k + 1) (by omega)]
    exact m 7 _ (by omega)
  · unfold VB
    rw [z 0 (by omega), z 1 (by omega), z 2 (by omega), z 3 (by omega), z 4 (by omega), z 6 (by omega), z 8 (by omega), z 9 (by omega), z 13 (by omega), z10]
    exact ⟨by omega, fun h => by omega, fun _ => ⟨rfl, rfl, rfl, rfl, rfl, rfl, rfl⟩, fun l h a b => by omega, fun s a b => by omega, fun i a b => by omega, fun s h a b => by omega, fun i a b => by omega, Or.inl rfl⟩
theorem b0_Rl (S : STR (Ev0 b P) K) : Rl (Ev0 b P) K b0 20 26 0 := by
  have hco : co = 0 := rfl
  have hmo : mo = 58 := rfl
  have j0 : b0.2.1 = fun _ _ => jI 0 := rfl
  have vi : ∀ p, p + 6 < 58 → VI b0 p := fun p hp => ⟨b0_4 (by omega) 0, 0, by omega, by omega, rfl⟩
  have z18 : ∀ z, b0.2.2.2.1 (co + 18) z = 0 := fun z => b0_4 (by omega) z
  have z9 : b0.1 20 9 = 0 := b0_i (by omega) (by omega)
  have k50 : ∀ k, k < 4 → KD (Ev0 b P) (50 + 2 * k) 5 3 ∧ KD (Ev0 b P) (50 + 2 * k + 1) 21 60 := fun k hk => by
    rcases (show k = 0 ∨ k = 1 ∨ k = 2 ∨ k = 3 by omega) with rfl | rfl | rfl | rfl <;> exact ⟨k0_ (by decide) rfl, k0_ (by decide) rfl⟩
  refine ⟨S, ⟨b0_RV, ⟨⟨k0_ (by decide) rfl, k0_ (by decide) rfl, k0_ (by decide) rfl, k0_ (by decide) rfl, k0_ (by decide) rfl, k0_ (by decide) rfl, k0_ (by decide) rfl⟩, ⟨k0_ (by decide) rfl, k0_ (by decide) rfl, k0_ (by decide) rfl, k0_ (by decide) rfl, k0_ (by decide) rfl, k0_ (by decide) rfl, k0_ (by decide) rfl⟩, k0_v (by omega), rfl⟩, ⟨by omega, by omega, by omega, by omega, by omega⟩, Or.inl (b0_i (by omega) (by omega)), vi 3 (by omega), vi 10 (by omega)⟩, Or.inl ⟨rfl, rfl⟩, ⟨⟨k0_ (by decide) rfl, k0_ (by decide) rfl, k0_m, fun k hk => ⟨(k50 k hk).1, (k50 k hk).2, ?_⟩⟩, fun k hk => Or.inl ⟨b0_n (by omega), ?_⟩⟩, ⟨⟨k0_ (by decide) rfl, k0_ (by decide) rfl, fun k hk => ⟨k0_v (by omega), ?_⟩⟩, fun k hk => ⟨Or.inl (z18 _), ?_, fun h => ?_⟩⟩, ⟨?_, ?_⟩, ⟨k0_ (by decide) rfl, k0_ (by decide) rfl⟩, ⟨fun i j a b c => by omega, fun k hk h => ?_⟩, ?_, by show 84 ≤ 84; omega, Or.inl ⟨?_, by show 84 ≤ 84 + 0; omega, by show 116140 ≤ 116140 + 5 * 0; omega⟩⟩
  · rw [b0_3, if_neg (by omega), if_neg (by omega), if_neg (by omega), if_pos (by omega)]
  · show (if 59 = 59 ∧ 0 ≤ (k : Int) ∧ (k : Int) < 4 then (-1 : Int) else 0) = -1
    exact if_pos (by omega)
  · rw [b0_3, if_neg (by omega), if_neg (by omega), if_pos (by omega)]
  · rw [z18]
    exact b0_4 (by omega) _
  · rw [z18] at h
    omega
  · have a1 : b0.1 co 10 = 0 := b0_i (by omega) (by omega)
    have a2 : b0.1 mo 6 = 0 := b0_i (by omega) (by omega)
    have a3 : b0.1 mo 14 = 0 := b0_i (by omega) (by omega)
    have a4 : b0.1 mo 15 = -1 := b0_n (by omega)
    have a5 : b0.1 (co + 2) 0 = 0 := b0_i (by omega) (by omega)
    have a6 : b0.1 (co + 2) 1 = -1 := b0_n (by omega)
    unfold rTp
    rw [a1, a2, a3, a4, a5, a6]
    exact ⟨by omega, rfl, fun z z0 z1 => by omega, rfl, rfl, ⟨by omega, by omega⟩, ⟨by omega, by omega⟩⟩
  · have a7 : b0.1 (co + 2) 7 = 0 := b0_i (by omega) (by omega)
    refine ⟨funext fun z => ?_, by omega, by omega⟩
    rw [b0_4 (by omega), b0_4 (by omega)]
  · rw [z18] at h
    omega
  · have a8 : b0.1 co 12 = 1 := by rw [b0_1, if_pos (by omega)]
    omega
  · rw [b0_3, if_neg (by omega), if_neg (by omega), if_neg (by omega), if_neg (by omega)]
end BG0
/-! what the Statement gives -/
theorem ar_p {ty : FieldType} {args : Array Value} {s : State} (h : (Cond.arrayClass ty).before args s = true) : ∃ cA, ArrOfT s cA ty ∧ s.vm.findClass ("[" ++ ty.toString) = some cA := by
  obtain ⟨c, k, comp, h1, h2, h3⟩ := Cond.arrayClass_spec h
  exact ⟨c, fun n z => ⟨fun k h => (by cases h), k, h2, comp, h3⟩, h1⟩
theorem ar_o {C : String} {args : Array Value} {s : State} (h : (Cond.arrayOver (.object C)).before args s = true) : ∃ cA, ArrOfT s cA (.object C) ∧ va_RA s cA (.object C) := by
  obtain ⟨comp, c, k, h1, h2, h3, h4, h5⟩ := Cond.arrayOver_spec h
  exact ⟨c, fun n z => ⟨fun k h => (by cases h), k, h3, comp, h4⟩, k, comp, h3, h4, h1, h5⟩
def tmS (i : Nat) : Term := .string RX3 (sIdx.getD i 0)
def vlS (i : Nat) : Term := .field (tmS i) "java/lang/String" "value" "[B"
def wdS (i : Nat) : List Cond := [.exactly (tmS i) "java/lang/String", .eq (.field (tmS i) "java/lang/String" "coder" "B") (.int 0), .arrayOf (vlS i) .byte, .eq (.length (vlS i)) (.int (Int32.ofNat (sLen.getD i 0)))] ++ (List.range (sLen.getD i 0)).map (fun j => Cond.eq (.elem (vlS i) (.int (Int32.ofNat j))) (.int ((sByt.getD i []).getD j 0)))
theorem wds_eq : (List.range 28).flatMap wdS = (flatC narrow_1).drop 37 := by decide +kernel
theorem wds_in {i : Nat} (hi : i < 28) {w : Cond} (h : w ∈ wdS i) : w ∈ flatC narrow_1 := by
  have h1 : w ∈ (List.range 28).flatMap wdS := List.mem_flatMap.mpr ⟨i, List.mem_range.mpr hi, h⟩
  rw [wds_eq] at h1
  exact List.mem_of_mem_drop h1
theorem lw_len : ∀ i, i < 28 → (sByt.getD i []).length = sLen.getD i 0 ∧ sLen.getD i 0 < 100 := by decide +kernel
theorem lw_len2 : ∀ i, i < 28 → ∀ j, j < 28 → Int32.ofNat (sLen.getD i 0) = Int32.ofNat (sLen.getD j 0) → sLen.getD i 0 = sLen.getD j 0 := by decide +kernel
theorem lw_dif : ∀ i, i < 28 → ∀ j, j < 28 → sByt.getD i [] = sByt.getD j [] → i = j := by decide +kernel
theorem st_S {args : Array Value} {s : State} {A : Nat → Prop} (hs : ∀ c ∈ flatC narrow_1, c.before args s = true) (hA : ∀ a : Nat, a < s.heap.size → ¬ A a) : ∃ adK adV : Nat → Nat, vk_S 28 sLen sByt adK adV A s s.heap ∧ ∀ i : Nat, i < 28 → (tmS i).eval args s none [] s = some (.ref (adK i)) := by
  have h0 : ∀ i : Nat, ∃ q : Nat × Nat, i < 28 → (tmS i).eval args s none [] s = some (.ref q.1) ∧ va_O "java/lang/String" q.1 A s s.heap ∧ va_OF "java/lang/String" "coder" "B" (.int 0) q.1 A s s.heap ∧ va_OF "java/lang/String" "value" "[B" (.ref q.2) q.1 A s s.heap ∧ va_T .byte q.2 (sLen.getD i 0) (fun j => .int ((sByt.getD i []).getD j 0)) A s s.heap := by
    intro i
    by_cases hi : i < 28
    · have w : ∀ c ∈ wdS i, c.before args s = true := fun c hc => hs c (wds_in hi hc)
      have hex : (Cond.exactly (tmS i) "java/lang/String").before args s = true := w _ (by unfold wdS; simp)
      have hco : (Cond.eq (.field (tmS i) "java/lang/String" "coder" "B") (.int 0)).before args s = true := w _ (by unfold wdS; simp)
      have har : (Cond.arrayOf (vlS i) .byte).before args s = true := w _ (by unfold wdS; simp)
      have hle : (Cond.eq (.length (vlS i)) (.int (Int32.ofNat (sLen.getD i 0)))).before args s = true := w _ (by unfold wdS; simp)
      have hel : ∀ j : Nat, j < sLen.getD i 0 → (Cond.eq (.elem (vlS i) (.int (Int32.ofNat j))) (.int ((sByt.getD i []).getD j 0))).before args s = true := fun j hj => w _ (List.mem_append_right _ (List.mem_map.mpr ⟨j, List.mem_range.mpr hj, rfl⟩))
      obtain ⟨a, c, cA, kA, q1, q2, q3, q4, q5, q6, -⟩ := Cond.exactly_spec (args := args) (first := s) (o := none) (s := s) (idx := []) (t := tmS i) (cls := "java/lang/String") hex
      obtain ⟨t, ht, hT⟩ := va_Tof (f := fun j => .int ((sByt.getD i []).getD j 0)) (A := A) (show sLen.getD i 0 < 2 ^ 31 by have := (lw_len i hi).2; omega) har (va_eqt hle) (fun j hj => va_eqt (hel j hj)) hA
      exact ⟨(a, t), fun _ => ⟨q1, ⟨cA, q3, q5, by rw [q6]; exact q2, hA a (Array.getElem?_eq_some_iff.mp q3).1⟩, vk_OFof q1 (va_eqt hco) hA, vk_OFof q1 ht hA, hT⟩⟩
    · exact ⟨(0, 0), fun h => absurd h hi⟩
  obtain ⟨ad, had⟩ := Classical.axiomOfChoice h0
  refine ⟨fun i => (ad i).1, fun i => (ad i).2, ⟨fun i hi => (had i hi).2, fun i j hi hj e => ?_⟩, fun i hi => (had i hi).1⟩
  have e : (ad i).1 = (ad j).1 := e
  obtain ⟨-, -, -, ⟨cf, k, fi, f, cell, f1, f2, f3, f4, f5, f6⟩, cell1, t1, t2, t3, t4, t5, t6, t7⟩ := had i hi
  obtain ⟨-, -, -, ⟨cf', k', fi', f', cell', f1', f2', f3', f4', f5', f6'⟩, cell2, t1', t2', t3', t4', t5', t6', t7'⟩ := had j hj
  rw [f1] at f1'
  cases f1'
  rw [← e, f3] at f3'
  cases f3'
  rw [f5] at f5'
  have e2 : (ad i).2 = (ad j).2 := by
    have h := Option.some.inj f5'
    injection h
  rw [← e2, t1] at t1'
  cases t1'
  have le := lw_len2 i hi j hj (t5.symm.trans t5')
  have l1 := (lw_len i hi).1
  have l2 := (lw_len j hj).1
  refine lw_dif i hi j hj (List.ext_getElem (by omega) fun q h1 h2 => ?_)
  have u1 := t6 q (by omega)
  have u2 := t6' q (by omega)
  rw [u1] at u2
  have u3 : (sByt.getD i []).getD q 0 = (sByt.getD j []).getD q 0 := by
    have := Option.some.inj u2
    injection this
  have g : ∀ (l l' : List Int32) (h1 : q < l.length) (h2 : q < l'.length), l.getD q 0 = l'.getD q 0 → l[q] = l'[q] := fun l l' h1 h2 h => by
    rw [List.getD_eq_getElem?_getD, List.getD_eq_getElem?_getD, List.getElem?_eq_getElem h1, List.getElem?_eq_getElem h2] at h
    exact h
  exact g _ _ h1 h2 u3
