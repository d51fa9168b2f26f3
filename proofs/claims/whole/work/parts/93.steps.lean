/-! steps of both readers, pure: (fault, its place, the token's place, the class's number) -/
def ad (T : Int → Int) (L q : Int) : Int := skT T L (nxT T L q)
def sgP (T : Int → Int) (L : Int) (s : Int × Int × Int × Int) : Prop := (0 ≤ s.1 ∧ s.1 ≤ 3) ∧ (0 ≤ s.2.2.1 ∧ s.2.2.1 ≤ L) ∧ (0 ≤ s.2.2.2 ∧ s.2.2.2 ≤ 1000000) ∧ (kdT T L s.2.2.1 = 2 → s.2.2.2 = vcT T s.2.2.1 (deT T L s.2.2.1 - s.2.2.1).toNat)
abbrev Sg (T : Int → Int) (L : Int) : Type := {s : Int × Int × Int × Int // sgP T L s}
abbrev Tg (T : Int → Int) (L : Int) : Type := {s : Int × Int × Int // (0 ≤ s.1 ∧ s.1 ≤ 3) ∧ (0 ≤ s.2.2 ∧ s.2.2 ≤ L)}
section PS
variable {T : Int → Int} {L : Int}
theorem nxT_b {q : Int} (h : q ≤ L) : q ≤ nxT T L q ∧ nxT T L q ≤ L := by
  have a := leT_b (T := T) h
  have b := deT_b (T := T) h
  unfold nxT
  repeat' split
  all_goals omega
theorem ad_b {q : Int} (h : q ≤ L) : q ≤ ad T L q ∧ ad T L q ≤ L := by
  have a := nxT_b (T := T) h
  have b := skT_b (T := T) a.2
  unfold ad
  omega
theorem ad_lt {q : Int} (h : q < L) : q < ad T L q := by
  have e : q < nxT T L q := by
    unfold nxT
    rw [if_pos h]
    split
    · rename_i c
      unfold leT
      obtain ⟨k, hk⟩ : ∃ k : Nat, (L - q).toNat = k + 1 := ⟨(L - q).toNat - 1, by omega⟩
      rw [hk]
      show q < if ¬ (97 ≤ T q ∧ T q ≤ 122) then q else lf _ k (q + 1)
      rw [if_neg (fun y => y c)]
      have := lf_spec (fun z => ¬ (97 ≤ T z ∧ T z ≤ 122)) k (q + 1)
      omega
    · split
      · rename_i c
        unfold deT
        obtain ⟨k, hk⟩ : ∃ k : Nat, (L - q).toNat = k + 1 := ⟨(L - q).toNat - 1, by omega⟩
        rw [hk]
        show q < if ¬ (48 ≤ T q ∧ T q ≤ 57) then q else lf _ k (q + 1)
        rw [if_neg (fun y => y c)]
        have := lf_spec (fun z => ¬ (48 ≤ T z ∧ T z ≤ 57)) k (q + 1)
        omega
      · omega
  have a := nxT_b (T := T) (show q ≤ L by omega)
  have b := skT_b (T := T) a.2
  unfold ad
  omega
theorem vlT_b {q v : Int} (h : q ≤ L) (hv : 0 ≤ v ∧ v ≤ 1000000) : 0 ≤ vlT T L q v ∧ vlT T L q v ≤ 1000000 := by
  unfold vlT
  have b := deT_b (T := T) h
  split
  · exact vcT_b _ (fun i hi => b.2.2 (q + i) (by omega) (by omega))
  · exact hv
def cA (s : Sg T L) : Sg T L := ⟨(s.1.1, s.1.2.1, ad T L s.1.2.2.1, vlT T L (ad T L s.1.2.2.1) s.1.2.2.2), by
  obtain ⟨h1, h2, h3, h4⟩ := s.2
  have a := ad_b (T := T) h2.2
  exact ⟨h1, ⟨Int.le_trans h2.1 a.1, a.2⟩, vlT_b a.2 h3, fun e => if_pos e⟩⟩
def cF (f pl : Int) (hf : 0 ≤ f ∧ f ≤ 3) (s : Sg T L) : Sg T L := ⟨(if s.1.1 = 0 then f else s.1.1, if s.1.1 = 0 then pl else s.1.2.1, s.1.2.2.1, s.1.2.2.2), by
  obtain ⟨h1, h2, h3, h4⟩ := s.2
  refine ⟨?_, h2, h3, h4⟩
  show 0 ≤ (if s.1.1 = 0 then f else s.1.1) ∧ (if s.1.1 = 0 then f else s.1.1) ≤ 3
  split
  · exact hf
  · exact h1⟩
def cW (k : Nat) (s : Sg T L) : Sg T L := if isW T L s.1.2.2.1 k then cA s else cF 1 s.1.2.2.1 (by omega) s
def cG (s : Sg T L) : Sg T L := if kdT T L s.1.2.2.1 = 3 then cA s else cF 1 s.1.2.2.1 (by omega) s
def cN (lo hi : Int) (s : Sg T L) : Sg T L := if kdT T L s.1.2.2.1 = 2 then (if lo ≤ s.1.2.2.2 ∧ s.1.2.2.2 ≤ hi then cA s else cF 2 s.1.2.2.1 (by omega) s) else cF 1 s.1.2.2.1 (by omega) s
def cV (lo hi : Int) (s : Sg T L) : Int := if (cN lo hi s).1.1 = 0 then s.1.2.2.2 else 0
def mA (s : Tg T L) : Tg T L := ⟨(s.1.1, s.1.2.1, ad T L s.1.2.2), by
  obtain ⟨h1, h2⟩ := s.2
  have a := ad_b (T := T) h2.2
  exact ⟨h1, Int.le_trans h2.1 a.1, a.2⟩⟩
def mF (f : Int) (hf : 0 ≤ f ∧ f ≤ 3) (s : Tg T L) : Tg T L := ⟨(if s.1.1 = 0 then f else s.1.1, if s.1.1 = 0 then s.1.2.2 else s.1.2.1, s.1.2.2), by
  obtain ⟨h1, h2⟩ := s.2
  refine ⟨?_, h2⟩
  show 0 ≤ (if s.1.1 = 0 then f else s.1.1) ∧ (if s.1.1 = 0 then f else s.1.1) ≤ 3
  split
  · exact hf
  · exact h1⟩
def mW (k : Nat) (s : Tg T L) : Tg T L := if s.1.1 = 0 ∧ isW T L s.1.2.2 k then mA s else mF 1 (by omega) s
def mN (lo hi : Int) (s : Tg T L) : Tg T L := if s.1.1 = 0 then (if kdT T L s.1.2.2 = 2 then (if lo ≤ vl9 T L s.1.2.2 ∧ vl9 T L s.1.2.2 ≤ hi then mA s else mF 2 (by omega) s) else mF 1 (by omega) s) else s
def mV (lo hi : Int) (s : Tg T L) : Int := if s.1.1 = 0 ∧ kdT T L s.1.2.2 = 2 ∧ lo ≤ vl9 T L s.1.2.2 ∧ vl9 T L s.1.2.2 ≤ hi then vl9 T L s.1.2.2 else lo
def mG (s : Tg T L) : Tg T L := if s.1.1 = 0 ∧ kdT T L s.1.2.2 = 3 then mA s else mF 1 (by omega) s
/-- both stand alike -/
def pr (s : Sg T L) (t : Tg T L) : Prop := s.1.1 = t.1.1 ∧ s.1.2.1 = t.1.2.1 ∧ (s.1.1 = 0 → s.1.2.2.1 = t.1.2.2)
theorem vc_st {a b c : Int} (i : (a = b ∧ a ≤ 100000) ∨ (100000 < a ∧ 100000 < b)) (h : 48 ≤ c ∧ c ≤ 57) : (min 1000000 (a * 10 + c - 48) = (if 100000 < b then 1000000 else 10 * b + c - 48) ∧ min 1000000 (a * 10 + c - 48) ≤ 100000) ∨ (100000 < min 1000000 (a * 10 + c - 48) ∧ 100000 < (if 100000 < b then 1000000 else 10 * b + c - 48)) := by
  rcases i with ⟨i1, i2⟩ | ⟨i1, i2⟩
  · rw [if_neg (by omega)]
    omega
  · rw [if_pos i2]
    omega
theorem vc_vr {q : Int} : ∀ k : Nat, (∀ i : Nat, i < k → 48 ≤ T (q + i) ∧ T (q + i) ≤ 57) → (vcT T q k = vrT T q k ∧ vcT T q k ≤ 100000) ∨ (100000 < vcT T q k ∧ 100000 < vrT T q k) := by
  intro k
  induction k with
  | zero =>
    intro _
    have z1 : vcT T q 0 = 0 := rfl
    have z2 : vrT T q 0 = 0 := rfl
    rw [z1, z2]
    exact Or.inl ⟨rfl, by omega⟩
  | succ k ih =>
    intro h
    have i := ih (fun i hi => h i (by omega))
    have b := h k (by omega)
    have e1 : vcT T q (k + 1) = min 1000000 (vcT T q k * 10 + T (q + k) - 48) := rfl
    have e2 : vrT T q (k + 1) = if 100000 < vrT T q k then 1000000 else 10 * vrT T q k + T (q + k) - 48 := rfl
    rw [e1, e2]
    exact vc_st i b
theorem vl_num {s : Sg T L} {lo hi : Int} (hh : hi ≤ 100000) (hk : kdT T L s.1.2.2.1 = 2) : (lo ≤ s.1.2.2.2 ∧ s.1.2.2.2 ≤ hi ↔ lo ≤ vl9 T L s.1.2.2.1 ∧ vl9 T L s.1.2.2.1 ≤ hi) ∧ (s.1.2.2.2 ≤ hi → s.1.2.2.2 = vl9 T L s.1.2.2.1) := by
  obtain ⟨h1, h2, h3, h4⟩ := s.2
  have e := h4 hk
  have b := deT_b (T := T) h2.2
  have e9 : vl9 T L s.1.2.2.1 = vrT T s.1.2.2.1 (deT T L s.1.2.2.1 - s.1.2.2.1).toNat := if_pos hk
  have i := vc_vr (T := T) (q := s.1.2.2.1) (deT T L s.1.2.2.1 - s.1.2.2.1).toNat (fun i hi => b.2.2 (s.1.2.2.1 + i) (by omega) (by omega))
  rw [← e, ← e9] at i
  omega
theorem pA {s : Sg T L} {t : Tg T L} (h : pr s t) : pr (cA s) (mA t) := by
  obtain ⟨h1, h2, h3⟩ := h
  refine ⟨h1, h2, fun e => ?_⟩
  show ad T L s.1.2.2.1 = ad T L t.1.2.2
  rw [h3 e]
theorem pF {s : Sg T L} {t : Tg T L} {f : Int} (hf : 0 ≤ f ∧ f ≤ 3) (hf0 : f ≠ 0) (h : pr s t) : pr (cF f s.1.2.2.1 hf s) (mF f hf t) ∧ ¬ (cF f s.1.2.2.1 hf s).1.1 = 0 := by
  obtain ⟨h1, h2, h3⟩ := h
  have n0 : ¬ (if s.1.1 = 0 then f else s.1.1) = 0 := by
    split
    · exact hf0
    · assumption
  refine ⟨⟨?_, ?_, fun e => absurd e n0⟩, n0⟩
  · show (if s.1.1 = 0 then f else s.1.1) = (if t.1.1 = 0 then f else t.1.1)
    rw [h1]
  · show (if s.1.1 = 0 then s.1.2.2.1 else s.1.2.1) = (if t.1.1 = 0 then t.1.2.2 else t.1.2.1)
    rw [h1, h2]
    split
    · rename_i c
      exact h3 (h1.trans c)
    · rfl
theorem pW {s : Sg T L} {t : Tg T L} (k : Nat) (h : pr s t) : pr (cW k s) (mW k t) ∧ ((cW k s).1.1 = 0 → s.1.1 = 0 ∧ isW T L s.1.2.2.1 k) ∧ (s.1.1 = 0 ∧ isW T L s.1.2.2.1 k → (cW k s).1.1 = 0) := by
  have h' := h
  obtain ⟨h1, h2, h3⟩ := h'
  unfold cW mW
  by_cases c : isW T L s.1.2.2.1 k
  · rw [if_pos c]
    by_cases c0 : s.1.1 = 0
    · rw [if_pos ⟨h1 ▸ c0, h3 c0 ▸ c⟩]
      exact ⟨pA h, fun _ => ⟨c0, c⟩, fun _ => c0⟩
    · rw [if_neg (fun y => c0 (h1.trans y.1))]
      refine ⟨⟨?_, ?_, fun e => absurd e c0⟩, fun e => absurd e c0, fun e => absurd e.1 c0⟩
      · show s.1.1 = (if t.1.1 = 0 then 1 else t.1.1)
        rw [if_neg (fun y => c0 (h1.trans y)), h1]
      · show s.1.2.1 = (if t.1.1 = 0 then t.1.2.2 else t.1.2.1)
        rw [if_neg (fun y => c0 (h1.trans y)), h2]
  · rw [if_neg c, if_neg (fun y => c (by rw [h3 (h1.trans y.1)]; exact y.2))]
    obtain ⟨f1, f2⟩ := pF (f := 1) (by omega) (by omega) h
    exact ⟨f1, fun e => absurd e f2, fun e => absurd e.2 c⟩
theorem pG {s : Sg T L} {t : Tg T L} (h : pr s t) : pr (cG s) (mG t) ∧ ((cG s).1.1 = 0 → s.1.1 = 0 ∧ kdT T L s.1.2.2.1 = 3) := by
  have h' := h
  obtain ⟨h1, h2, h3⟩ := h'
  unfold cG mG
  by_cases c : kdT T L s.1.2.2.1 = 3
  · rw [if_pos c]
    by_cases c0 : s.1.1 = 0
    · rw [if_pos ⟨h1 ▸ c0, h3 c0 ▸ c⟩]
      exact ⟨pA h, fun _ => ⟨c0, c⟩⟩
    · rw [if_neg (fun y => c0 (h1.trans y.1))]
      refine ⟨⟨?_, ?_, fun e => absurd e c0⟩, fun e => absurd e c0⟩
      · show s.1.1 = (if t.1.1 = 0 then 1 else t.1.1)
        rw [if_neg (fun y => c0 (h1.trans y)), h1]
      · show s.1.2.1 = (if t.1.1 = 0 then t.1.2.2 else t.1.2.1)
        rw [if_neg (fun y => c0 (h1.trans y)), h2]
  · rw [if_neg c, if_neg (fun y => c (by rw [h3 (h1.trans y.1)]; exact y.2))]
    obtain ⟨f1, f2⟩ := pF (f := 1) (by omega) (by omega) h
    exact ⟨f1, fun e => absurd e f2⟩
theorem pN {s : Sg T L} {t : Tg T L} (lo hi : Int) (hh : hi ≤ 100000) (h : pr s t) : pr (cN lo hi s) (mN lo hi t) ∧ ((cN lo hi s).1.1 = 0 → s.1.1 = 0 ∧ cV lo hi s = mV lo hi t ∧ lo ≤ cV lo hi s ∧ cV lo hi s ≤ hi) := by
  have h' := h
  obtain ⟨h1, h2, h3⟩ := h'
  have bad : ¬ s.1.1 = 0 → (cN lo hi s).1.1 = s.1.1 ∧ (cN lo hi s).1.2.1 = s.1.2.1 := fun c0 => by
    have f : ∀ (f : Int) (hf : 0 ≤ f ∧ f ≤ 3), (cF f s.1.2.2.1 hf s).1.1 = s.1.1 ∧ (cF f s.1.2.2.1 hf s).1.2.1 = s.1.2.1 := fun f hf => ⟨if_neg c0, if_neg c0⟩
    unfold cN
    split
    · split
      · exact ⟨rfl, rfl⟩
      · exact f _ _
    · exact f _ _
  by_cases c0 : s.1.1 = 0
  · have t0 : t.1.1 = 0 := h1 ▸ c0
    have eq := h3 c0
    have key : pr (cN lo hi s) (mN lo hi t) ∧ ((cN lo hi s).1.1 = 0 → kdT T L s.1.2.2.1 = 2 ∧ lo ≤ s.1.2.2.2 ∧ s.1.2.2.2 ≤ hi) := by
      unfold cN mN
      rw [if_pos t0, ← eq]
      by_cases c : kdT T L s.1.2.2.1 = 2
      · rw [if_pos c, if_pos c]
        obtain ⟨n1, n2⟩ := vl_num (lo := lo) hh c
        by_cases c2 : lo ≤ s.1.2.2.2 ∧ s.1.2.2.2 ≤ hi
        · rw [if_pos c2, if_pos (n1.mp c2)]
          exact ⟨pA h, fun _ => ⟨c, c2⟩⟩
        · rw [if_neg c2, if_neg (fun y => c2 (n1.mpr y))]
          obtain ⟨f1, f2⟩ := pF (f := 2) (by omega) (by omega) h
          exact ⟨f1, fun e => absurd e f2⟩
      · rw [if_neg c, if_neg c]
        obtain ⟨f1, f2⟩ := pF (f := 1) (by omega) (by omega) h
        exact ⟨f1, fun e => absurd e f2⟩
    refine ⟨key.1, fun e => ?_⟩
    obtain ⟨k1, k2, k3⟩ := key.2 e
    obtain ⟨n1, n2⟩ := vl_num (lo := lo) hh k1
    have ev : cV lo hi s = s.1.2.2.2 := if_pos e
    have em : mV lo hi t = vl9 T L s.1.2.2.1 := by
      unfold mV
      rw [← eq]
      exact if_pos ⟨t0, k1, n1.mp ⟨k2, k3⟩⟩
    rw [ev, em]
    exact ⟨c0, n2 k3, k2, k3⟩
  · obtain ⟨b1, b2⟩ := bad c0
    refine ⟨⟨?_, ?_, fun e => absurd (b1 ▸ e) c0⟩, fun e => absurd (b1 ▸ e) c0⟩
    · rw [b1, h1]
      unfold mN
      rw [if_neg (fun y => c0 (h1.trans y))]
    · rw [b2, h2]
      unfold mN
      rw [if_neg (fun y => c0 (h1.trans y))]
/-- the place never falls -/
theorem qA (s : Sg T L) : s.1.2.2.1 ≤ (cA s).1.2.2.1 := (ad_b s.2.2.1.2).1
theorem qF {f pl : Int} (hf : 0 ≤ f ∧ f ≤ 3) (s : Sg T L) : s.1.2.2.1 ≤ (cF f pl hf s).1.2.2.1 := Int.le_refl _
theorem qW (k : Nat) (s : Sg T L) : s.1.2.2.1 ≤ (cW k s).1.2.2.1 := by
  unfold cW
  split
  · exact qA s
  · exact Int.le_refl _
theorem qG (s : Sg T L) : s.1.2.2.1 ≤ (cG s).1.2.2.1 := by
  unfold cG
  split
  · exact qA s
  · exact Int.le_refl _
theorem qN (lo hi : Int) (s : Sg T L) : s.1.2.2.1 ≤ (cN lo hi s).1.2.2.1 := by
  unfold cN
  split
  · split
    · exact qA s
    · exact Int.le_refl _
  · exact Int.le_refl _
theorem qGl {s : Sg T L} (h : kdT T L s.1.2.2.1 = 3) : s.1.2.2.1 < (cG s).1.2.2.1 := by
  unfold cG
  rw [if_pos h]
  refine ad_lt ?_
  by_cases q : s.1.2.2.1 < L
  · exact q
  · unfold kdT at h
    rw [if_neg q] at h
    omega
end PS
/-! what the readers do is just that -/
def rs (T : Int → Int) (L : Int) (m : Nat) (B : Bk) (s : Sg T L) : Bk := rsW T L m B s.1.1 s.1.2.1 (nxT T L s.1.2.2.1) (kdT T L s.1.2.2.1) s.1.2.2.1 s.1.2.2.2
def ms (T : Int → Int) (L : Int) (B : Bk) (s : Tg T L) : Bk := nkW T L (wI (wI B mo 12 s.1.1) mo 13 s.1.2.1) (nxT T L s.1.2.2) (kdT T L s.1.2.2) s.1.2.2 (vl9 T L s.1.2.2) (wd9 T L s.1.2.2)
section RSx
variable {E : Ev} {B : Bk} {K : Nat → Nat} {T : Int → Int} {L : Int} {m : Nat}
theorem rs_adv (h : RDK E m) (D : TB9 T L) (s : Sg T L) : fX3_advance (E.1 + (co + 2)) (St E (rs T L m B s)) = some (St E (rs T L m B (cA s))) := by
  obtain ⟨h1, h2, h3, h4⟩ := s.2
  have a := nxT_b (T := T) h2.2
  exact s3_adv h D (by omega) a.2
theorem rs_fail {f pl : Int} (h : RDK E m) (hf : 0 ≤ f ∧ f ≤ 3) (s : Sg T L) : fX3_fail (E.1 + (co + 2)) (iI f) (iI pl) (St E (rs T L m B s)) = some (St E (rs T L m B (cF f pl hf s))) := s3_fail h s.2.1
theorem rs_6 (h : RDK E m) (s : Sg T L) : gI (St E (rs T L m B s)) (E.1 + (co + 2)) 3 6 = some (iI s.1.2.2.1) := by
  rw [g3_6 h.1]
  unfold rs
  rw [rsW_6]
theorem rs_0 (h : RDK E m) (s : Sg T L) : gI (St E (rs T L m B s)) (E.1 + (co + 2)) 3 0 = some (iI s.1.1) := by
  rw [g3_0 h.1]
  unfold rs
  rw [rsW_0]
theorem rs_5 (h : RDK E m) (s : Sg T L) : gI (St E (rs T L m B s)) (E.1 + (co + 2)) 3 5 = some (iI (kdT T L s.1.2.2.1)) := by
  rw [g3_5 h.1]
  unfold rs
  rw [rsW_5]
theorem rs_7 (h : RDK E m) (s : Sg T L) : gI (St E (rs T L m B s)) (E.1 + (co + 2)) 3 7 = some (iI s.1.2.2.2) := by
  rw [g3_7 h.1]
  unfold rs
  rw [rsW_7]
theorem rs_3 (h : RDK E m) (s : Sg T L) : gI (St E (rs T L m B s)) (E.1 + (co + 2)) 3 3 = some (iI L) := by
  rw [g3_3 h.1]
  unfold rs
  rw [rsW_3]
theorem rs_8 (h : RDK E m) (s : Sg T L) : gI (St E (rs T L m B s)) (E.1 + (co + 2)) 3 8 = some (iI (B.1 (co + 2) 8)) := by
  rw [g3_8 h.1]
  unfold rs
  rw [rsW_8]
theorem rs_9 (h : RDK E m) (s : Sg T L) : gR (St E (rs T L m B s)) (E.1 + (co + 2)) 3 9 = some (E.1 + m) := g3_9 h.1 rsW_9
theorem rs_i {e j : Nat} (h : e ≠ co + 2) (s : Sg T L) : (rs T L m B s).1 e j = B.1 e j := rsW_o h
theorem rs_r {e : Nat} (h : e ≠ co + 1) (s : Sg T L) : (rs T L m B s).2.2.2.1 e = B.2.2.2.1 e := rsW_r h
theorem rs_w8 {x : Int} (s : Sg T L) : wI (rs T L m B s) (co + 2) 8 x = rs T L m (wI B (co + 2) 8 x) s := rsW_w8
theorem rs_wI {e j : Nat} {x : Int} (h : e ≠ co + 2) (s : Sg T L) : wI (rs T L m B s) e j x = rs T L m (wI B e j x) s := rsW_wo h
theorem rs_wA {e : Nat} {z x : Int} (h : e ≠ co + 1) (s : Sg T L) : wA (rs T L m B s) e z x = rs T L m (wA B e z x) s := rsW_wA h
theorem rs_is {k : Nat} (S : STR E K) (h : RDK E m) (D : TB9 T L) (hk : k < 28) (s : Sg T L) : fX3_isWord (E.1 + (co + 2)) (K k) (St E (rs T L m B s)) = some (iI (bI (isW T L s.1.2.2.1 k)), St E (rs T L m B s)) := s3_isWord S h D s.2.2.1.1 s.2.2.1.2 hk
theorem rs_tW {k : Nat} (S : STR E K) (h : RDK E m) (D : TB9 T L) (hk : k < 28) (s : Sg T L) : fX3_takeWord (E.1 + (co + 2)) (K k) (St E (rs T L m B s)) = some (St E (rs T L m B (cW k s))) := by
  simp (disch := omega) only [fX3_takeWord, c3 h.1, some_bind, rs_is S h D hk, iI_0, ib, rs_6 h, rs_fail h, rs_adv h D]
  unfold cW
  split <;> rfl
theorem rs_tG (h : RDK E m) (D : TB9 T L) (s : Sg T L) : fX3_takeSign (E.1 + (co + 2)) (St E (rs T L m B s)) = some (St E (rs T L m B (cG s))) := by
  have kb := kdT_b (T := T) (L := L) (q := s.1.2.2.1)
  simp (disch := omega) only [fX3_takeSign, c3 h.1, some_bind, rs_5 h, iI_eq, rs_6 h, rs_fail h, rs_adv h D]
  unfold cG
  split <;> rfl
theorem rs_b51 {x : Int} (h : RDK E m) (s : Sg T L) : fX3_takeNumber_b51 (E.1 + (co + 2)) (iI x) (St E (rs T L m B s)) = some (iI (if s.1.1 = 0 then x else 0), St E (rs T L m B s)) := by
  obtain ⟨h1, h2, h3, h4⟩ := s.2
  simp (disch := omega) only [fX3_takeNumber_b51, rs_0 h, some_bind, iI_0, iI_eq]
  split <;> rfl
theorem rs_tN {lo hi : Int} (h : RDK E m) (D : TB9 T L) (l1 : -2147483648 ≤ lo) (l2 : lo < 2147483648) (g1 : -2147483648 ≤ hi) (g2 : hi < 2147483648) (s : Sg T L) : fX3_takeNumber (E.1 + (co + 2)) (iI lo) (iI hi) (St E (rs T L m B s)) = some (iI (cV lo hi s), St E (rs T L m B (cN lo hi s))) := by
  have kb := kdT_b (T := T) (L := L) (q := s.1.2.2.1)
  obtain ⟨h1, h2, h3, h4⟩ := s.2
  simp (disch := omega) only [fX3_takeNumber, fX3_takeNumber_b35, c3 h.1, some_bind, rs_7 h, rs_5 h, iI_eq, iI_lt, iI_le, rs_6 h, rs_fail h, rs_adv h D, rs_b51 h]
  unfold cV cN
  by_cases c : kdT T L s.1.2.2.1 = 2
  · simp only [if_pos c]
    by_cases c2 : lo ≤ s.1.2.2.2 ∧ s.1.2.2.2 ≤ hi
    · rw [if_neg (by omega), if_pos c2.2, if_pos c2]
    · simp only [if_neg c2]
      by_cases c3 : s.1.2.2.2 < lo
      · rw [if_pos c3]
      · rw [if_neg c3, if_neg (by omega)]
  · simp only [if_neg c]
end RSx
section MSx
variable {E : Ev} {B : Bk} {T : Int → Int} {L : Int}
theorem wI_ow {e j j' : Nat} {x y z : Int} (h : j ≠ j') : wI (wI (wI B e j x) e j' y) e j z = wI (wI B e j z) e j' y := by
  refine Prod.ext ?_ rfl
  funext a b
  show (if a = e ∧ b = j then z else if a = e ∧ b = j' then y else if a = e ∧ b = j then x else B.1 a b) = (if a = e ∧ b = j' then y else if a = e ∧ b = j then z else B.1 a b)
  repeat' split
  all_goals first | rfl | (exfalso; omega)
theorem wI_2x {e j : Nat} {x y : Int} : wI (wI B e j x) e j y = wI B e j y := by
  refine Prod.ext ?_ rfl
  funext a b
  show (if a = e ∧ b = j then y else if a = e ∧ b = j then x else B.1 a b) = (if a = e ∧ b = j then y else B.1 a b)
  repeat' split
  all_goals rfl
theorem wI_cm {e j e' j' : Nat} {x y : Int} (h : ¬ (e = e' ∧ j = j')) : wI (wI B e j x) e' j' y = wI (wI B e' j' y) e j x := by
  refine Prod.ext ?_ rfl
  funext a b
  show (if a = e' ∧ b = j' then y else if a = e ∧ b = j then x else B.1 a b) = (if a = e ∧ b = j then x else if a = e' ∧ b = j' then y else B.1 a b)
  repeat' split
  all_goals first | rfl | (exfalso; omega)
theorem nkW_wo {a b c d w x : Int} {e j : Nat} (h : e = mo → ¬ (6 ≤ j ∧ j ≤ 10)) : wI (nkW T L B a b c d w) e j x = nkW T L (wI B e j x) a b c d w := by
  refine Prod.ext ?_ rfl
  funext e' j'
  show (if e' = e ∧ j' = j then x else if e' = mo ∧ j' = 6 then L else if e' = mo ∧ j' = 7 then a else if e' = mo ∧ j' = 8 then b else if e' = mo ∧ j' = 9 then c else if e' = mo ∧ j' = 10 then d else B.1 e' j') = (if e' = mo ∧ j' = 6 then L else if e' = mo ∧ j' = 7 then a else if e' = mo ∧ j' = 8 then b else if e' = mo ∧ j' = 9 then c else if e' = mo ∧ j' = 10 then d else if e' = e ∧ j' = j then x else B.1 e' j')
  by_cases q : e' = e ∧ j' = j
  · obtain ⟨rfl, rfl⟩ := q
    rw [if_pos ⟨rfl, rfl⟩, if_neg (fun y => by have := h y.1; omega), if_neg (fun y => by have := h y.1; omega), if_neg (fun y => by have := h y.1; omega), if_neg (fun y => by have := h y.1; omega), if_neg (fun y => by have := h y.1; omega), if_pos ⟨rfl, rfl⟩]
  · simp only [if_neg q]
theorem nkW_wA {a b c d w x z : Int} {e : Nat} (h : e ≠ mo + 5) : wA (nkW T L B a b c d w) e z x = nkW T L (wA B e z x) a b c d w := by
  refine Prod.ext rfl (Prod.ext rfl (Prod.ext rfl (Prod.ext ?_ rfl)))
  funext e' z'
  show (if e' = e ∧ z' = z then x else if e' = mo + 5 then T z' else B.2.2.2.1 e' z') = (if e' = mo + 5 then T z' else if e' = e ∧ z' = z then x else B.2.2.2.1 e' z')
  by_cases q : e' = mo + 5
  · rw [if_neg (by omega), if_pos q, if_pos q]
  · rw [if_neg q, if_neg q]
theorem ms_wI {e j : Nat} {x : Int} (h : e = mo → ¬ (6 ≤ j ∧ j ≤ 13)) (s : Tg T L) : wI (ms T L B s) e j x = ms T L (wI B e j x) s := by
  unfold ms
  rw [nkW_wo (fun y => by have := h y; omega), wI_cm (e := mo) (j := 13) (fun y => by have := h y.1.symm; omega), wI_cm (e := mo) (j := 12) (fun y => by have := h y.1.symm; omega)]
theorem ms_wA {e : Nat} {z x : Int} (h : e ≠ mo + 5) (s : Tg T L) : wA (ms T L B s) e z x = ms T L (wA B e z x) s := by
  unfold ms
  rw [nkW_wA h]
  rfl
theorem ms_i {e j : Nat} (h : e = mo → ¬ (6 ≤ j ∧ j ≤ 13)) (s : Tg T L) : (ms T L B s).1 e j = B.1 e j := by
  unfold ms
  rw [nkW_o (fun y => by have := h y; omega), wI_1, if_neg (fun y => by have := h y.1; omega), wI_1, if_neg (fun y => by have := h y.1; omega)]
theorem ms_r {e : Nat} (h : e ≠ mo + 5) (s : Tg T L) : (ms T L B s).2.2.2.1 e = B.2.2.2.1 e := by
  unfold ms
  rw [nkW_r h]
  rfl
theorem ms_12 (s : Tg T L) : (ms T L B s).1 mo 12 = s.1.1 := by
  unfold ms
  rw [nkW_o (by omega), wI_1, if_neg (by omega), wI_1, if_pos ⟨rfl, rfl⟩]
theorem ms_13 (s : Tg T L) : (ms T L B s).1 mo 13 = s.1.2.1 := by
  unfold ms
  rw [nkW_o (by omega), wI_1, if_pos ⟨rfl, rfl⟩]
theorem ms_8 (s : Tg T L) : (ms T L B s).1 mo 8 = kdT T L s.1.2.2 := nkW_8
theorem ms_9 (s : Tg T L) : (ms T L B s).1 mo 9 = s.1.2.2 := nkW_9
theorem ms_10 (s : Tg T L) : (ms T L B s).1 mo 10 = vl9 T L s.1.2.2 := nkW_10
theorem ms_11 (s : Tg T L) : (ms T L B s).2.1 mo 11 = jI (wd9 T L s.1.2.2) := nkW_11
theorem ms_next (rm : mKd E mo) (D : TB9 T L) (s : Tg T L) : fX9_next (E.1 + mo) (St E (ms T L B s)) = some (St E (ms T L B (mA s))) := by
  obtain ⟨h1, h2⟩ := s.2
  have a := nxT_b (T := T) h2.2
  exact m_next rm D (by omega) a.2
theorem ms_fails {f : Int} (rm : mKd E mo) (hf : 0 ≤ f ∧ f ≤ 3) (s : Tg T L) : fX9_fails (E.1 + mo) (iI f) (St E (ms T L B s)) = some (St E (ms T L B (mF f hf s))) := by
  obtain ⟨h1, h2⟩ := s.2
  have e9 : ∀ x, (wI (ms T L B s) mo 12 x).1 mo 9 = s.1.2.2 := fun x => by rw [wI_1, if_neg (by omega), ms_9]
  simp (disch := omega) only [fX9_fails, c9 rm.1, some_bind, g9_12 rm.1, ms_12, iI_0, iI_eq, p9_12 rm.1, g9_9 rm.1, e9, p9_13 rm.1]
  by_cases q : s.1.1 = 0
  · rw [if_pos q]
    unfold ms mF
    simp only [if_pos q]
    rw [nkW_wo (by omega), nkW_wo (by omega), wI_ow (by omega), wI_ow (by omega)]
  · rw [if_neg q]
    unfold ms mF
    simp only [if_neg q]
theorem ms_good (rm : mKd E mo) (s : Tg T L) : fX9_isGood (E.1 + mo) (St E (ms T L B s)) = some (iI (bI (s.1.1 = 0)), St E (ms T L B s)) := by
  obtain ⟨h1, h2⟩ := s.2
  simp (disch := omega) only [fX9_isGood, c9 rm.1, some_bind, g9_12 rm.1, ms_12, iI_0, iI_eq]
  by_cases q : s.1.1 = 0
  · rw [if_pos q, bI_t q]
  · rw [if_neg q, bI_f q]
theorem cdL_b {k : Nat} (hk : k < 28) : 0 ≤ cdL k ∧ cdL k < 9223372036854775808 := by
  have : ∀ k, k < 28 → 0 ≤ cdL k ∧ cdL k < 9223372036854775808 := by decide +kernel
  exact this k hk
theorem lg_0 (x y : Int64) : (lg_cmp x y = iI 0) ↔ x = y := by
  rw [← iI_0]
  exact lg_cmp_eq x y
theorem ms_is {k : Nat} {x1 : Int64} (hx : x1 = jI (cdL k)) (rm : mKd E mo) (hk : k < 28) (s : Tg T L) : fX9_is (E.1 + mo) x1 (St E (ms T L B s)) = some (iI (bI (s.1.1 = 0 ∧ isW T L s.1.2.2 k)), St E (ms T L B s)) := by
  obtain ⟨h1, h2⟩ := s.2
  subst hx
  have kb := kdT_b (T := T) (L := L) (q := s.1.2.2)
  have wb := wd9_b (T := T) h2.2
  have cb := cdL_b hk
  simp (disch := omega) only [fX9_is, fX9_is_b28, c9 rm.1, some_bind, g9_12 rm.1, ms_12, iI_0, iI_eq, g9_8 rm.1, ms_8, g9_11 rm.1, ms_11, lg_0, jI_eq]
  by_cases q : s.1.1 = 0
  · rw [if_pos q]
    by_cases q2 : kdT T L s.1.2.2 = 1
    · rw [if_pos q2]
      have ii := is_iff (T := T) h2.2 hk q2
      by_cases q3 : wd9 T L s.1.2.2 = cdL k
      · rw [if_pos q3, bI_t ⟨q, ii.mp q3⟩]
      · rw [if_neg q3, bI_f (fun y => q3 (ii.mpr y.2))]
    · rw [if_neg q2, bI_f (fun y => q2 y.2.1)]
  · rw [if_neg q, bI_f (fun y => q y.1)]
theorem ms_takes {k : Nat} {x1 : Int64} (hx : x1 = jI (cdL k)) (rm : mKd E mo) (D : TB9 T L) (hk : k < 28) (s : Tg T L) : fX9_takes (E.1 + mo) x1 (St E (ms T L B s)) = some (iI (bI (s.1.1 = 0 ∧ isW T L s.1.2.2 k)), St E (ms T L B (if s.1.1 = 0 ∧ isW T L s.1.2.2 k then mA s else s))) := by
  simp only [fX9_takes, c9 rm.1, some_bind, ms_is hx rm hk, iI_0, ib, ms_next rm D]
  by_cases q : s.1.1 = 0 ∧ isW T L s.1.2.2 k
  · rw [if_pos q, if_pos q, bI_t q]
  · rw [if_neg q, if_neg q, bI_f q]
theorem ms_asks {k : Nat} {x1 : Int64} (hx : x1 = jI (cdL k)) (rm : mKd E mo) (D : TB9 T L) (hk : k < 28) (s : Tg T L) : fX9_asks (E.1 + mo) x1 (St E (ms T L B s)) = some (St E (ms T L B (mW k s))) := by
  simp only [fX9_asks, c9 rm.1, some_bind, ms_takes hx rm D hk, iI_0, ib, ms_fails rm (show (0 : Int) ≤ 1 ∧ (1 : Int) ≤ 3 by omega)]
  unfold mW
  by_cases q : s.1.1 = 0 ∧ isW T L s.1.2.2 k
  · rw [if_pos q, if_pos q, if_pos q]
  · rw [if_neg q, if_neg q, if_neg q]
theorem vl9_b {q : Int} (h : q ≤ L) : 0 ≤ vl9 T L q ∧ vl9 T L q ≤ 1000009 := by
  unfold vl9
  have b := deT_b (T := T) h
  split
  · exact vrT_b _ (fun i hi => b.2.2 (q + i) (by omega) (by omega))
  · omega
theorem ms_num {lo hi : Int} (rm : mKd E mo) (D : TB9 T L) (l1 : -2147483648 ≤ lo) (l2 : lo < 2147483648) (g1 : -2147483648 ≤ hi) (g2 : hi < 2147483648) (s : Tg T L) : fX9_number (E.1 + mo) (iI lo) (iI hi) (St E (ms T L B s)) = some (iI (mV lo hi s), St E (ms T L B (mN lo hi s))) := by
  obtain ⟨h1, h2⟩ := s.2
  have kb := kdT_b (T := T) (L := L) (q := s.1.2.2)
  have vb := vl9_b (T := T) h2.2
  simp (disch := omega) only [fX9_number, c9 rm.1, some_bind, g9_12 rm.1, ms_12, iI_0, iI_eq, g9_8 rm.1, ms_8, g9_10 rm.1, ms_10, jI_i, m_in, ib, ms_fails rm, ms_next rm D]
  unfold mV mN
  by_cases q : s.1.1 = 0
  · rw [if_pos q, if_pos q]
    by_cases q2 : kdT T L s.1.2.2 = 2
    · rw [if_pos q2, if_pos q2]
      by_cases q3 : lo ≤ vl9 T L s.1.2.2 ∧ vl9 T L s.1.2.2 ≤ hi
      · rw [if_pos q3, if_pos q3, if_pos ⟨q, q2, q3⟩]
      · rw [if_neg q3, if_neg q3, if_neg (fun y => q3 y.2.2)]
    · rw [if_neg q2, if_neg q2, if_neg (fun y => q2 y.2.1)]
  · rw [if_neg q, if_neg q, if_neg (fun y => q y.1)]
theorem ms_num_ {k : Nat} {x1 : Int64} {lo hi : Int} (hx : x1 = jI (cdL k)) (rm : mKd E mo) (D : TB9 T L) (hk : k < 28) (l1 : -2147483648 ≤ lo) (l2 : lo < 2147483648) (g1 : -2147483648 ≤ hi) (g2 : hi < 2147483648) (s : Tg T L) : fX9_number_ (E.1 + mo) x1 (iI lo) (iI hi) (St E (ms T L B s)) = some (iI (mV lo hi (mW k s)), St E (ms T L B (mN lo hi (mW k s)))) := by
  simp only [fX9_number_, c9 rm.1, some_bind, ms_asks hx rm D hk, ms_num rm D l1 l2 g1 g2]
theorem ms_ends (rm : mKd E mo) (D : TB9 T L) (s : Tg T L) (q : s.1.1 = 0) : fX9_ends (E.1 + mo) (St E (ms T L B s)) = some (St E (ms T L B (mG s))) := by
  obtain ⟨h1, h2⟩ := s.2
  have kb := kdT_b (T := T) (L := L) (q := s.1.2.2)
  have f1 : ¬ (mF 1 (by omega) s).1.1 = 0 := by
    show ¬ (if s.1.1 = 0 then (1 : Int) else s.1.1) = 0
    rw [if_pos q]
    omega
  have f2 := (mF 1 (by omega) s).2.1
  simp (disch := omega) only [fX9_ends, fX9_ends_b13, c9 rm.1, some_bind, g9_12 rm.1, ms_12, iI_0, iI_eq, g9_8 rm.1, ms_8, ms_fails rm, ms_next rm D]
  unfold mG
  by_cases q2 : kdT T L s.1.2.2 = 3
  · rw [if_pos q2, if_pos q, if_pos ⟨q, q2⟩]
  · rw [if_neg q2, if_neg f1, if_neg (fun y => q2 y.2)]
theorem ms_hasRead {j : Int} (rm : mKd E mo) (j0 : 0 ≤ j) (j1 : j < 15) (s : Tg T L) : fX9_hasRead (E.1 + mo) (iI j) (St E (ms T L B s)) = some (iI (B.2.2.2.1 (mo + 7) (60 + j)), St E (ms T L B s)) := by
  simp (disch := omega) only [fX9_hasRead, c9 rm.1, some_bind, g9_17 rm.1, iI_add, aI_ok (mk7 rm), ms_r (e := mo + 7) (by omega)]
theorem ms_reads {j x : Int} (rm : mKd E mo) (j0 : 0 ≤ j) (j1 : j < 15) (s : Tg T L) : fX9_reads (E.1 + mo) (iI j) (iI x) (St E (ms T L B s)) = some (St E (ms T L (wA B (mo + 7) (60 + j) x) s)) := by
  simp (disch := omega) only [fX9_reads, c9 rm.1, some_bind, g9_17 rm.1, iI_add, sI_ok (mk7 rm), ms_wA (e := mo + 7)]
end MSx
