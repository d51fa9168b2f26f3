/-! ways: the class's run; aims that keep nothing -/
def SdK (B0 : Bk) (r : Nat) (_ : Nat → Nat → Nat → Prop) (B : Bk) : Prop := B.2.2.2.1 = B0.2.2.2.1 ∧ B.2.2.2.2 (r + 1) = B0.2.2.2.2 (r + 1)
/-- what is kept stays: the Roamer alone has changed -/
def pQ (d : Nat) (B C : Bk) : Prop := (∀ e j, e ≠ d → C.1 e j = B.1 e j) ∧ (∀ e j, ¬ (e = d + 2 ∧ j = 1) → C.2.1 e j = B.2.1 e j) ∧ (∀ e j, e ≠ d → C.2.2.1 e j = B.2.2.1 e j) ∧ C.2.2.2.1 = B.2.2.2.1 ∧ ∀ e, e ≠ d + 1 → e ≠ d + 3 → C.2.2.2.2 e = B.2.2.2.2 e
theorem smI_add {f : Nat → Int} {a : Nat} : ∀ b, smI f (a + b) = smI f a + smI (fun i => f (a + i)) b
  | 0 => by
    show smI f a = smI f a + 0
    rw [Int.add_zero]
  | b + 1 => by
    show smI f (a + b) + f (a + b) = smI f a + (smI (fun i => f (a + i)) b + f (a + b))
    rw [smI_add b]
    omega
theorem smI_mul {f : Nat → Int} {n : Nat} : ∀ m, smI f (m * n) = smI (fun b => smI (fun l => f (b * n + l)) n) m
  | 0 => by
    rw [Nat.zero_mul]
    rfl
  | m + 1 => by
    rw [Nat.add_mul, Nat.one_mul, smI_add, smI_mul m]
    rfl
theorem smI_at {v : Int} {k : Nat} : ∀ (n : Nat), smI (fun i => if i = k then v else 0) n = if k < n then v else 0
  | 0 => by
    rw [if_neg (by omega)]
    rfl
  | n + 1 => by
    show smI (fun i => if i = k then v else 0) n + (if n = k then v else 0) = _
    rw [smI_at n]
    by_cases q : n = k
    · rw [if_neg (by omega), if_pos q, if_pos (by omega), Int.zero_add]
    · rw [if_neg q, Int.add_zero]
      by_cases q2 : k < n
      · rw [if_pos q2, if_pos (by omega)]
      · rw [if_neg q2, if_neg (by omega)]
section WCM
variable {E : Ev} {B C : Bk} {V : Vy} {S G n L h T d p r : Nat} {ed : Int → Int64}
def aBd (V : Vy) (S G n L h : Nat) (a : CnF) : Prop := ∀ s u l, ¬ a s u l = 0 → s ≤ S ∧ u ≤ G ∧ l < n ∧ s + u ≤ h ∧ hiL L s u - cgV V (h : Int) ≤ (l : Int) ∧ (l : Int) ≤ hiL L s u
theorem pC_b {a : CnF} (ab : aBd V S G n L h a) {s u l : Nat} (w : ¬ pC n a s u l = 0) : s + u ≤ h + 1 ∧ hiL L s u - cgV V (h : Int) ≤ (l : Int) ∧ (l : Int) ≤ hiL L s u := by
  unfold pC at w
  by_cases q0 : a s u l = 0
  · by_cases q1 : (if 0 < s ∧ 0 < l then a (s - 1) u (l - 1) else 0) = 0
    · have q2 : ¬ (if 0 < u ∧ l + 1 < n then a s (u - 1) (l + 1) else 0) = 0 := fun e => w (by rw [q0, q1, e]; rfl)
      split at q2
      · rename_i c
        have := ab _ _ _ q2
        unfold hiL at *
        omega
      · exact absurd rfl q2
    · split at q1
      · rename_i c
        have := ab _ _ _ q1
        unfold hiL at *
        omega
      · exact absurd rfl q1
  · have := ab _ _ _ q0
    omega
def kR (V : Vy) (S G n h : Nat) (a : CnF) : CnF := fun s u l => if s ≤ S ∧ u ≤ G ∧ l < n then kC V h n a s u l else 0
theorem kR_b {a : CnF} (hV : VOK V) (hh : (h : Int) < V.1 4) (ab : aBd V S G n L h a) : aBd V S G n L (h + 1) (kR V S G n h a) := by
  intro s u l w
  have cn := cgV_n hV hh
  have cb : coolV V (h : Int) = 0 ∨ coolV V (h : Int) = 1 := bI_01
  unfold kR at w
  split at w
  · rename_i c
    refine ⟨c.1, c.2.1, c.2.2, ?_⟩
    rw [cn]
    unfold kC at w
    by_cases q : coolV V (h : Int) = 1
    · rw [if_pos q] at w
      by_cases q1 : l = 0
      · rw [if_pos q1] at w
        by_cases e : pC n a s u 0 = 0
        · have e1 : ¬ pC n a s u 1 = 0 := fun e2 => w (by rw [e, e2]; rfl)
          have := pC_b ab e1
          omega
        · have := pC_b ab e
          omega
      · rw [if_neg q1] at w
        split at w
        · have := pC_b ab w
          omega
        · exact absurd rfl w
    · rw [if_neg q] at w
      have := pC_b ab w
      omega
  · exact absurd rfl w
def jF (a : CnF) : StF := fun s u l _ => jI (a s u l)
theorem jn4 {x y : Int} : jnR 4 (jI x) (jI y) = jI (x + y) := by
  unfold jnR
  rw [if_pos rfl, jI_add]
theorem x2_j {a : CnF} {s u l t : Nat} : x2R 4 n (jF a) s u l t = jI (pC n a s u l) := by
  have e1 : x1R 4 (jF a) s u l t = jI (a s u l + (if 0 < s ∧ 0 < l then a (s - 1) u (l - 1) else 0)) := by
    unfold x1R jF
    by_cases q : 0 < s ∧ 0 < l
    · rw [if_pos q, if_pos q, jn4]
    · rw [if_neg q, if_neg q, Int.add_zero]
  unfold x2R pC
  rw [e1]
  by_cases q : 0 < u ∧ l + 1 < n
  · rw [if_pos q, if_pos q]
    unfold jF
    rw [jn4]
  · rw [if_neg q, if_neg q, Int.add_zero]
theorem ps_j {a : CnF} {s u l t : Nat} (ab : aBd V S G n L h a) : psB V 4 ed n h (jF a) s u (loL V L s u h) (hiL L s u) l t = jI (pC n a s u l) := by
  unfold psB
  by_cases q : loL V L s u h ≤ (l : Int) ∧ (l : Int) ≤ hiL L s u
  · rw [if_pos q]
    unfold cyR
    rw [if_pos rfl, x2_j]
  · rw [if_neg q]
    have z1 : pC n a s u l = 0 := by
      by_cases e : pC n a s u l = 0
      · exact e
      · have := pC_b ab e
        unfold loL at q
        omega
    have z2 : a s u l = 0 := by
      by_cases e : a s u l = 0
      · exact e
      · have := ab _ _ _ e
        unfold loL at q
        omega
    unfold jF
    rw [z1, z2]
theorem hr_j {a : CnF} (n2 : 2 ≤ n) (ab : aBd V S G n L h a) {s u l t : Nat} (hs : s ≤ S) (hu : u ≤ G) (hl : l < n) : hrA V 4 ed n L h (fun _ f => f) (jF a) s u l t = jF (kR V S G n h a) s u l t := by
  have hk : ∀ l, l < n → hrK V 4 ed n L h (jF a) s u l t = jI (kC V h n a s u l) := fun l hl => by
    unfold hrK kC
    by_cases q : coolV V (h : Int) = 1
    · rw [if_pos q, if_pos q]
      unfold skB
      by_cases q1 : l = 0
      · rw [if_pos q1, if_pos q1, ps_j ab, ps_j ab, jn4]
      · rw [if_neg q1, if_neg q1]
        by_cases q2 : l + 1 < n
        · rw [if_pos q2, if_pos q2, ps_j ab]
        · rw [if_neg q2, if_neg q2]
          rfl
    · rw [if_neg q, if_neg q, ps_j ab]
  unfold hrA
  by_cases q : s + u ≤ h + 1
  · rw [if_pos q]
    unfold hrB jF kR
    rw [if_pos (show s ≤ S ∧ u ≤ G ∧ l < n from ⟨hs, hu, hl⟩)]
    have := hk l hl
    unfold jF at this
    split <;> exact this
  · rw [if_neg q]
    unfold jF kR
    rw [if_pos (show s ≤ S ∧ u ≤ G ∧ l < n from ⟨hs, hu, hl⟩)]
    have z2 : a s u l = 0 := by
      by_cases e : a s u l = 0
      · exact e
      · have := ab _ _ _ e
        omega
    have zp : ∀ l, pC n a s u l = 0 := fun l => by
      by_cases e : pC n a s u l = 0
      · exact e
      · have := pC_b ab e
        omega
    have z1 : kC V h n a s u l = 0 := by
      unfold kC
      simp only [zp]
      repeat' split
      all_goals rfl
    rw [z1, z2]
theorem NT_rowsK {B0 : Bk} {A' : StF} (R : RE E d p r) (hn : V.1 3 = (n : Int)) (n5 : n ≤ 5) : NT E d p r S G n T V ed L 4 h (fun _ f => f) A' (SdK B0 r) := by
  intro B A D s u l hs hu hl c hA _ w
  rw [s4_nH R c hn, if_neg (by decide), if_neg (by decide), if_neg (by decide), s4_n97 R c (by omega), if_neg (by omega)]
  exact ⟨B, rfl, nF_rfl, upB_id hA (fun t ht => rfl), w⟩
theorem SdK_ro {B0 B C : Bk} {D : Nat → Nat → Nat → Prop} (R : RE E d p r) (f : roF d B C) (w : SdK B0 r D B) : SdK B0 r D C := ⟨by rw [f.2.2.2.1]; exact w.1, by rw [f.2.2.2.2 (r + 1) (by have := R.2.2.2.2; omega)]; exact w.2⟩
/-- rows of acts of H hours -/
def rwI (V : Vy) (S G n L H : Nat) (tot : Int) (j : Nat) (a : CnF) : Prop := aBd V S G n L j a ∧ S3 S G n (fun s u l => a s u l * WcC V S G (H - j) (j : Int) s u l) = tot
theorem rw_step {a : CnF} {H j : Nat} {tot : Int} (hV : VOK V) (hn : V.1 3 = (n : Int)) (hj : (j : Int) < V.1 4) (jH : j < H) (w : rwI V S G n L H tot j a) : rwI V S G n L H tot (j + 1) (kR V S G n j a) := by
  have v3 := hV.2.2.1
  refine ⟨kR_b hV hj w.1, ?_⟩
  rw [← w.2, show H - j = (H - (j + 1)) + 1 by omega, ← kC_sum (h := j) hn (by omega), show ((j + 1 : Nat) : Int) = (j : Int) + 1 from Int.natCast_add _ _]
  refine S3_cg (fun s u l hs hu hl => ?_)
  unfold kR
  rw [if_pos (show s ≤ S ∧ u ≤ G ∧ l < n from ⟨hs, hu, hl⟩)]
theorem s4_rowsOfActs {q H : Nat} (R : RE E d p r) (hw : VW B p) (eV : vyN B p = V) (N : RN V (q : Int) S G L n) (hH : (H : Int) ≤ V.1 4) : ∃ C, fX4_rowsOfActs (E.1 + d) (E.1 + p) (iI (q : Int)) (iI (H : Int)) (St E B) = some (jI (Fw V H 0 (L : Int) (S : Int) (G : Int)), St E C) ∧ pQ d B C ∧ brI C (d + 2) (V.1 1) (V.1 2) 64 := by
  obtain ⟨c0, hc0, c64, cok, hL⟩ := scV_b N
  have N' := N
  obtain ⟨hV, i0, eS, eG, eL, hn, hS, hG⟩ := N'
  have v3 := hV.2.2.1
  have v4 := hV.2.2.2.1
  have kd := R.1.1
  obtain ⟨C1, ed, a1, a2, a3, a4⟩ := s4_prepare (i := (q : Int)) (T' := 1) (k := 4) (T := 1) R hw eV N (by omega) (fun e => by omega) (by decide) (by omega)
  obtain ⟨a0, ha0⟩ : ∃ a0 : CnF, ∀ s u l, a0 s u l = if s = 0 ∧ u = 0 ∧ l = L then 1 else 0 := ⟨fun s u l => _, fun _ _ _ => rfl⟩
  have st0 : stR C1 d S G n 1 (jF a0) := stR_eq a4 (fun s u l t hs hu hl ht => by
    unfold stA0 jF
    rw [ha0]
    by_cases e : s = 0 ∧ u = 0 ∧ l = L
    · rw [if_pos e, if_pos ⟨e.1, e.2.1, e.2.2, by omega⟩, if_pos rfl]
      rfl
    · rw [if_neg e, if_neg (fun w => e ⟨w.1, w.2.1, w.2.2.1⟩)]
      rfl)
  have w0 : rwI V S G n L H (Fw V H 0 (L : Int) (S : Int) (G : Int)) 0 a0 := by
    refine ⟨fun s u l w => ?_, ?_⟩
    · rw [ha0] at w
      split at w
      · rename_i e
        obtain ⟨rfl, rfl, rfl⟩ := e
        have := cgV_0 (V := V)
        refine ⟨by omega, by omega, hL, by omega, ?_, ?_⟩
        · rw [this]
          unfold hiL
          omega
        · unfold hiL
          omega
      · exact absurd rfl w
    · have e1 : S3 S G n (fun s u l => a0 s u l * WcC V S G (H - 0) ((0 : Nat) : Int) s u l) = S3 S G n (fun s u l => if s = 0 then (if u = 0 then (if l = L then WcC V S G H 0 0 0 L else 0) else 0) else 0) := by
        refine S3_cg (fun s u l _ _ _ => ?_)
        rw [ha0]
        by_cases x1 : s = 0
        · rw [if_pos x1]
          by_cases x2 : u = 0
          · rw [if_pos x2]
            by_cases x3 : l = L
            · rw [if_pos ⟨x1, x2, x3⟩, if_pos x3, x1, x2, x3, Int.one_mul]
              rfl
            · rw [if_neg (fun w => x3 w.2.2), if_neg x3, Int.zero_mul]
          · rw [if_neg (fun w => x2 w.2.1), if_neg x2, Int.zero_mul]
        · rw [if_neg (fun w => x1 w.1), if_neg x1, Int.zero_mul]
      have pull : ∀ (c : Prop) [Decidable c] (f : Nat → Int) (m : Nat), smI (fun i => if c then f i else 0) m = if c then smI f m else 0 := fun c _ f m => by
        by_cases e : c
        · rw [if_pos e]
          exact smI_cg (fun i _ => by rw [if_pos e])
        · rw [if_neg e, smI_cg (g := fun _ => 0) (fun i _ => by rw [if_neg e]), smI_z]
      rw [e1]
      unfold S3
      simp only [pull, smI_at]
      rw [if_pos (by omega), if_pos (by omega), if_pos hL]
      unfold WcC
      rw [show (S : Int) - ((0 : Nat) : Int) = (S : Int) by omega, show (G : Int) - ((0 : Nat) : Int) = (G : Int) by omega]
  obtain ⟨s2, b1, C, a, rfl, b2, b3, b4, b5⟩ := iter_acc (F := fX4_rowsOfActs_l11 (E.1 + d) (iI (H : Int))) (fun j x => ∃ C a, x = (iI (j : Int), St E C) ∧ nF d r C1 C ∧ SdK C1 r (fun _ _ _ => False) C ∧ stR C d S G n 1 (jF a) ∧ rwI V S G n L H (Fw V H 0 (L : Int) (S : Int) (G : Int)) j a) H (fun x => ∃ C a, x = St E C ∧ nF d r C1 C ∧ SdK C1 r (fun _ _ _ => False) C ∧ stR C d S G n 1 (jF a) ∧ rwI V S G n L H (Fw V H 0 (L : Int) (S : Int) (G : Int)) H a)
    (fun j x hj hx => by
      obtain ⟨C, a, rfl, b2, b3, b4, b5⟩ := hx
      have cc := RC_nF R b2 a3
      obtain ⟨C', g1, g2, g3, g4⟩ := s4_passHour (h := j) (A := jF a) (Sd := SdK C1 r) R cc hV hn hL hS hG (by omega) (NT_rowsK R hn (by omega)) (fun D B C f w => SdK_ro R f w) b4 b3
      refine ⟨(iI ((j + 1 : Nat) : Int), St E C'), ?_, C', kR V S G n j a, rfl, nF_tr b2 g2, g4, stR_eq g3 (fun s u l t hs hu hl ht => hr_j (by omega) b5.1 hs hu hl), rw_step hV hn (by omega) hj b5⟩
      unfold fX4_rowsOfActs_l11
      dsimp only
      rw [if_neg (by rw [iI_le (by omega) (by omega) (by omega) (by omega)]; omega), g1, some_bind, iI_add]
      rfl)
    (fun x hx => by
      obtain ⟨C, a, rfl, b2, b3, b4, b5⟩ := hx
      refine ⟨St E C, ?_, C, a, rfl, b2, b3, b4, b5⟩
      unfold fX4_rowsOfActs_l11
      dsimp only
      rw [if_pos (by rw [iI_le (by omega) (by omega) (by omega) (by omega)]; omega)]) (N := FU) (by show H < 1000000; omega) (a := (iI 0, St E C1)) ⟨C1, a0, rfl, nF_rfl, ⟨rfl, rfl⟩, st0, w0⟩
  have cc := RC_nF R b2 a3
  have x1 : (S + 1) * (G + 1) ≤ 10 * 10 := Nat.mul_le_mul (by omega) (by omega)
  have x2 : (S + 1) * (G + 1) * n ≤ 100 * 5 := Nat.mul_le_mul (by omega) (by omega)
  obtain ⟨bc, hbc⟩ : ∃ bc, bc = (S + 1) * (G + 1) * n := ⟨_, rfl⟩
  have hbi : ((S : Int) + 1) * ((G : Int) + 1) * (n : Int) = (bc : Int) := by rw [hbc]; push_cast; rfl
  have bcE := s4_blockCount (E := E) (B := C) kd R.2.1.1 cc.1.1
  rw [cc.2.1.2.1, cc.2.1.2.2.1, RC_v cc, hn, hbi] at bcE
  obtain ⟨v, hv⟩ : ∃ v : Nat → Int, ∀ z, v z = a (z / n / (G + 1)) (z / n % (G + 1)) (z % n) := ⟨fun z => _, fun _ => rfl⟩
  have row : ∀ z, z < bc → C.2.2.2.2 (d + 1) (z : Int) = jI (v z) := fun z hz => by
    have m1 : z % n < n := Nat.mod_lt _ (by omega)
    have m2 : z / n % (G + 1) < G + 1 := Nat.mod_lt _ (by omega)
    have dz : z / n < (S + 1) * (G + 1) := by rw [Nat.div_lt_iff_lt_mul (by omega)]; omega
    have dz2 : z / n / (G + 1) < S + 1 := by rw [Nat.div_lt_iff_lt_mul (by omega)]; exact dz
    have := b4 (z / n / (G + 1)) (z / n % (G + 1)) (z % n) 0 (by omega) (by omega) m1 (by omega)
    have pe : plN G n 1 (z / n / (G + 1)) (z / n % (G + 1)) (z % n) 0 = z := by
      unfold plN
      rw [Nat.div_add_mod' (z / n) (G + 1), Nat.div_add_mod' z n]
      omega
    rw [pe] at this
    rw [this, hv]
    rfl
  have fin : iter (fX4_rowsOfActs_l35 (E.1 + d)) FU (0, iI 0, St E C) = some (jI (smI v bc), St E C) := by
    have := iter_for (F := fX4_rowsOfActs_l35 (E.1 + d)) (fun j => (jI (smI v j.toNat), iI j, St E C)) 0 (bc : Int) (jI (smI v bc), St E C) (fun j j0 j1 => by
      obtain ⟨jn, rfl⟩ : ∃ jn : Nat, j = (jn : Int) := ⟨j.toNat, by omega⟩
      unfold fX4_rowsOfActs_l35 lt_
      dsimp only
      rw [bcE, some_bind]
      dsimp only
      rw [if_neg (by rw [iI_le (by omega) (by omega) (by omega) (by omega)]; omega), g4_0 kd, some_bind, aL_ok R.1.2.1 j0 (by omega) (by omega), some_bind, row jn (by omega), jI_add, iI_add, show ((jn : Int) + 1).toNat = jn + 1 by omega, Int.toNat_natCast]
      rfl) (by
      unfold fX4_rowsOfActs_l35
      dsimp only
      rw [bcE, some_bind]
      dsimp only
      rw [if_pos (by rw [iI_le (by omega) (by omega) (by omega) (by omega)]; omega), Int.toNat_natCast]) (by omega) (N := FU) (FU_big (by omega))
    exact this
  have tot : smI v bc = Fw V H 0 (L : Int) (S : Int) (G : Int) := by
    rw [← b5.2, hbc, smI_mul, smI_mul]
    unfold S3
    refine smI_cg (fun s hs => smI_cg (fun u hu => smI_cg (fun l hl => ?_)))
    rw [hv, Nat.sub_self]
    have q1 : ((s * (G + 1) + u) * n + l) / n = s * (G + 1) + u := by rw [Nat.mul_comm, Nat.mul_add_div (by omega), Nat.div_eq_of_lt hl, Nat.add_zero]
    have q2 : ((s * (G + 1) + u) * n + l) % n = l := by rw [Nat.mul_comm, Nat.mul_add_mod, Nat.mod_eq_of_lt hl]
    have q3 : (s * (G + 1) + u) / (G + 1) = s := by rw [Nat.mul_comm, Nat.mul_add_div (by omega), Nat.div_eq_of_lt hu, Nat.add_zero]
    have q4 : (s * (G + 1) + u) % (G + 1) = u := by rw [Nat.mul_comm, Nat.mul_add_mod, Nat.mod_eq_of_lt hu]
    rw [q1, q2, q3, q4]
    show a s u l = a s u l * 1
    rw [Int.mul_one]
  refine ⟨C, ?_, ⟨fun e j q1 => ?_, fun e j q1 => ?_, fun e j q1 => ?_, ?_, fun e q1 q2 => ?_⟩, cc.2.2.2.2.1.2⟩
  · unfold fX4_rowsOfActs
    rw [c4 kd, some_bind, a1, some_bind, b1, some_bind, fin, some_bind, tot]
  · rw [b2.1, a2.1 e j (by omega)]
  · rw [b2.2.1, a2.2.1 e j q1]
  · rw [b2.2.2.1, a2.2.2.1 e j (by omega)]
  · rw [b3.1, a2.2.2.2.1]
  · by_cases er : e = r + 1
    · rw [er, b3.2, a2.2.2.2.2 (r + 1) (by rw [← er]; exact q1) (by rw [← er]; exact q2)]
    · rw [b2.2.2.2.2 e q1 er, a2.2.2.2.2 e q1 q2]
end WCM
