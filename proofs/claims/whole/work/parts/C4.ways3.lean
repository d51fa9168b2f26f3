/-! ways: the class counts rows of acts -/
def smI (f : Nat → Int) : Nat → Int
  | 0 => 0
  | n + 1 => smI f n + f n
theorem smI_cg {f g : Nat → Int} : ∀ {n : Nat}, (∀ i, i < n → f i = g i) → smI f n = smI g n
  | 0, _ => rfl
  | n + 1, h => by
    show smI f n + f n = smI g n + g n
    rw [smI_cg (fun i hi => h i (by omega)), h n (by omega)]
theorem smI_ad {f g : Nat → Int} : ∀ (n : Nat), smI (fun i => f i + g i) n = smI f n + smI g n
  | 0 => rfl
  | n + 1 => by
    show smI (fun i => f i + g i) n + (f n + g n) = smI f n + f n + (smI g n + g n)
    rw [smI_ad n]
    omega
theorem smI_z (n : Nat) : smI (fun _ => 0) n = 0 := by
  induction n with
  | zero => rfl
  | succ n ih => show smI (fun _ => 0) n + 0 = 0; rw [ih]; rfl
theorem smI_u0 {f : Nat → Nat → Int} : ∀ (m : Nat), smI (fun i => if 0 < i then f (i - 1) i else 0) (m + 1) = smI (fun i => f i (i + 1)) m
  | 0 => by
    show 0 + (if 0 < 0 then f (0 - 1) 0 else 0) = 0
    rw [if_neg (by omega)]
    rfl
  | m + 1 => by
    show smI (fun i => if 0 < i then f (i - 1) i else 0) (m + 1) + (if 0 < m + 1 then f (m + 1 - 1) (m + 1) else 0) = smI (fun i => f i (i + 1)) m + f m (m + 1)
    rw [smI_u0 m, if_pos (by omega), show m + 1 - 1 = m by omega]
theorem smI_up {f : Nat → Nat → Int} (m : Nat) : smI (fun i => if 0 < i then f (i - 1) i else 0) m = smI (fun i => if i + 1 < m then f i (i + 1) else 0) m := by
  cases m with
  | zero => rfl
  | succ m =>
    rw [smI_u0]
    show _ = smI (fun i => if i + 1 < m + 1 then f i (i + 1) else 0) m + (if m + 1 < m + 1 then f m (m + 1) else 0)
    rw [if_neg (by omega), Int.add_zero]
    exact smI_cg (fun i hi => by rw [if_pos (by omega)])
theorem smI_dn {f : Nat → Nat → Int} (m : Nat) : smI (fun i => if i + 1 < m then f (i + 1) i else 0) m = smI (fun i => if 0 < i then f i (i - 1) else 0) m := (smI_up (f := fun a b => f b a) m).symm
def S3 (S G n : Nat) (f : Nat → Nat → Nat → Int) : Int := smI (fun s => smI (fun u => smI (fun l => f s u l) n) (G + 1)) (S + 1)
theorem S3_cg {S G n : Nat} {f g : Nat → Nat → Nat → Int} (h : ∀ s u l, s ≤ S → u ≤ G → l < n → f s u l = g s u l) : S3 S G n f = S3 S G n g := smI_cg (fun s hs => smI_cg (fun u hu => smI_cg (fun l hl => h s u l (by omega) (by omega) hl)))
theorem S3_ad {S G n : Nat} {f g : Nat → Nat → Nat → Int} : S3 S G n (fun s u l => f s u l + g s u l) = S3 S G n f + S3 S G n g := by
  unfold S3
  rw [← smI_ad]
  refine smI_cg (fun s hs => ?_)
  rw [← smI_ad]
  refine smI_cg (fun u hu => ?_)
  rw [← smI_ad]
/-- risen: what came from below -/
theorem S3_up {S G n : Nat} {f : Nat → Nat → Nat → Nat → Nat → Int} : S3 S G n (fun s u l => if 0 < s ∧ 0 < l then f (s - 1) (l - 1) s u l else 0) = S3 S G n (fun s u l => if l + 1 < n ∧ s < S then f s l (s + 1) u (l + 1) else 0) := by
  have e1 : S3 S G n (fun s u l => if 0 < s ∧ 0 < l then f (s - 1) (l - 1) s u l else 0) = smI (fun s => if 0 < s then smI (fun u => smI (fun l => if l + 1 < n then f (s - 1) l s u (l + 1) else 0) n) (G + 1) else 0) (S + 1) := by
    unfold S3
    dsimp only
    refine smI_cg (fun s hs => ?_)
    by_cases q : 0 < s
    · rw [if_pos q]
      refine smI_cg (fun u hu => ?_)
      rw [← smI_up (f := fun a b => f (s - 1) a s u b) n]
      refine smI_cg (fun l hl => ?_)
      by_cases q2 : 0 < l
      · rw [if_pos ⟨q, q2⟩, if_pos q2]
      · rw [if_neg (fun w => q2 w.2), if_neg q2]
    · rw [if_neg q, smI_cg (g := fun _ => 0) (fun u hu => by
        rw [smI_cg (g := fun _ => 0) (fun l hl => by rw [if_neg (fun w => q w.1)]), smI_z]), smI_z]
  rw [e1, smI_up (f := fun a b => smI (fun u => smI (fun l => if l + 1 < n then f a l b u (l + 1) else 0) n) (G + 1)) (S + 1)]
  unfold S3
  dsimp only
  refine smI_cg (fun s hs => ?_)
  by_cases q : s < S
  · rw [if_pos (by omega)]
    refine smI_cg (fun u hu => smI_cg (fun l hl => ?_))
    by_cases q2 : l + 1 < n
    · rw [if_pos q2, if_pos ⟨q2, q⟩]
    · rw [if_neg q2, if_neg (fun w => q2 w.1)]
  · rw [if_neg (by omega), smI_cg (g := fun _ => 0) (fun u hu => by
      rw [smI_cg (g := fun _ => 0) (fun l hl => by rw [if_neg (fun w => q w.2)]), smI_z]), smI_z]
/-- sunk: what came from above -/
theorem S3_dn {S G n : Nat} {f : Nat → Nat → Nat → Nat → Nat → Int} : S3 S G n (fun s u l => if 0 < u ∧ l + 1 < n then f (u - 1) (l + 1) s u l else 0) = S3 S G n (fun s u l => if 0 < l ∧ u < G then f u l s (u + 1) (l - 1) else 0) := by
  unfold S3
  dsimp only
  refine smI_cg (fun s hs => ?_)
  have e1 : smI (fun u => smI (fun l => if 0 < u ∧ l + 1 < n then f (u - 1) (l + 1) s u l else 0) n) (G + 1) = smI (fun u => if 0 < u then smI (fun l => if 0 < l then f (u - 1) l s u (l - 1) else 0) n else 0) (G + 1) := by
    refine smI_cg (fun u hu => ?_)
    by_cases q : 0 < u
    · rw [if_pos q, ← smI_dn (f := fun a b => f (u - 1) a s u b) n]
      refine smI_cg (fun l hl => ?_)
      by_cases q2 : l + 1 < n
      · rw [if_pos ⟨q, q2⟩, if_pos q2]
      · rw [if_neg (fun w => q2 w.2), if_neg q2]
    · rw [if_neg q, smI_cg (g := fun _ => 0) (fun l hl => by rw [if_neg (fun w => q w.1)]), smI_z]
  rw [e1, smI_up (f := fun a b => smI (fun l => if 0 < l then f a l s b (l - 1) else 0) n) (G + 1)]
  refine smI_cg (fun u hu => ?_)
  by_cases q : u < G
  · rw [if_pos (by omega)]
    refine smI_cg (fun l hl => ?_)
    by_cases q2 : 0 < l
    · rw [if_pos q2, if_pos ⟨q2, q⟩]
    · rw [if_neg q2, if_neg (fun w => q2 w.1)]
  · rw [if_neg (by omega), smI_cg (g := fun _ => 0) (fun l hl => by rw [if_neg (fun w => q w.2)]), smI_z]
/-- all sink: the sum with what they are worth then -/
theorem sk_sum {n : Nat} {p w : Nat → Int} (n0 : 2 ≤ n ∧ n ≤ 5) : smI (fun l => (if l = 0 then p 0 + p 1 else if l + 1 < n then p (l + 1) else 0) * w l) n = smI (fun l => p l * w (if 0 < l then l - 1 else l)) n := by
  rcases (show n = 2 ∨ n = 3 ∨ n = 4 ∨ n = 5 by omega) with rfl | rfl | rfl | rfl <;> simp [smI, Int.add_mul] <;> omega
abbrev CnF : Type := Nat → Nat → Nat → Int
def pC (n : Nat) (a : CnF) : CnF := fun s u l => a s u l + (if 0 < s ∧ 0 < l then a (s - 1) u (l - 1) else 0) + (if 0 < u ∧ l + 1 < n then a s (u - 1) (l + 1) else 0)
def kC (V : Vy) (h n : Nat) (a : CnF) : CnF := fun s u l => if coolV V (h : Int) = 1 then (if l = 0 then pC n a s u 0 + pC n a s u 1 else if l + 1 < n then pC n a s u (l + 1) else 0) else pC n a s u l
def WcC (V : Vy) (S G r : Nat) (h : Int) : CnF := fun s u l => Fw V r h (l : Int) ((S : Int) - (s : Int)) ((G : Int) - (u : Int))
section WCL
variable {V : Vy} {S G n L h : Nat}
theorem cl_N {l : Nat} : clA V (h : Int) (l : Int) = (((if coolV V (h : Int) = 1 ∧ 0 < l then l - 1 else l) : Nat) : Int) := by
  have := cl_c (V := V) (h := h) (l := (l : Int))
  split <;> omega
theorem kC_sum {a : CnF} {r : Nat} (hn : V.1 3 = (n : Int)) (n0 : 2 ≤ n ∧ n ≤ 5) : S3 S G n (fun s u l => kC V h n a s u l * WcC V S G r ((h : Int) + 1) s u l) = S3 S G n (fun s u l => a s u l * WcC V S G (r + 1) (h : Int) s u l) := by
  obtain ⟨Z, hZ⟩ : ∃ Z : CnF, ∀ s u l, Z s u l = Fw V r ((h : Int) + 1) (clA V (h : Int) (l : Int)) ((S : Int) - (s : Int)) ((G : Int) - (u : Int)) := ⟨fun s u l => _, fun _ _ _ => rfl⟩
  have e1 : S3 S G n (fun s u l => kC V h n a s u l * WcC V S G r ((h : Int) + 1) s u l) = S3 S G n (fun s u l => pC n a s u l * Z s u l) := by
    unfold S3
    dsimp only
    refine smI_cg (fun s hs => smI_cg (fun u hu => ?_))
    unfold kC WcC
    by_cases q : coolV V (h : Int) = 1
    · have := sk_sum (n := n) (p := pC n a s u) (w := fun l => Fw V r ((h : Int) + 1) (l : Int) ((S : Int) - (s : Int)) ((G : Int) - (u : Int))) n0
      rw [show (fun l => (if coolV V (h : Int) = 1 then (if l = 0 then pC n a s u 0 + pC n a s u 1 else if l + 1 < n then pC n a s u (l + 1) else 0) else pC n a s u l) * Fw V r ((h : Int) + 1) (l : Int) ((S : Int) - (s : Int)) ((G : Int) - (u : Int))) = (fun l => (if l = 0 then pC n a s u 0 + pC n a s u 1 else if l + 1 < n then pC n a s u (l + 1) else 0) * Fw V r ((h : Int) + 1) (l : Int) ((S : Int) - (s : Int)) ((G : Int) - (u : Int))) by
        funext l
        rw [if_pos q]]
      rw [this]
      refine smI_cg (fun l hl => ?_)
      rw [hZ, cl_N]
      by_cases q2 : 0 < l
      · rw [if_pos q2, if_pos ⟨q, q2⟩]
      · rw [if_neg q2, if_neg (fun w => q2 w.2)]
    · refine smI_cg (fun l hl => ?_)
      rw [if_neg q, hZ, cl_N, if_neg (fun w => q w.1)]
  have e2 : S3 S G n (fun s u l => pC n a s u l * Z s u l) = S3 S G n (fun s u l => a s u l * Z s u l) + S3 S G n (fun s u l => if l + 1 < n ∧ s < S then a s u l * Z (s + 1) u (l + 1) else 0) + S3 S G n (fun s u l => if 0 < l ∧ u < G then a s u l * Z s (u + 1) (l - 1) else 0) := by
    have u1 := S3_up (S := S) (G := G) (n := n) (f := fun s0 l0 s u l => a s0 u l0 * Z s u l)
    have d1 := S3_dn (S := S) (G := G) (n := n) (f := fun u0 l0 s u l => a s u0 l0 * Z s u l)
    rw [← u1, ← d1, ← S3_ad, ← S3_ad]
    refine S3_cg (fun s u l _ _ _ => ?_)
    unfold pC
    rw [Int.add_mul, Int.add_mul]
    congr 1
    · congr 1
      split
      · rfl
      · exact Int.zero_mul _
    · split
      · rfl
      · exact Int.zero_mul _
  rw [e1, e2, ← S3_ad, ← S3_ad]
  refine S3_cg (fun s u l hs hu hl => ?_)
  unfold WcC
  show _ = a s u l * ((if okA V 0 (l : Int) ((S : Int) - (s : Int)) ((G : Int) - (u : Int)) then Fw V r ((h : Int) + 1) (clA V (h : Int) (lvA 0 (l : Int))) (fsA 0 ((S : Int) - (s : Int))) (gsA 0 ((G : Int) - (u : Int))) else 0) + (if okA V 1 (l : Int) ((S : Int) - (s : Int)) ((G : Int) - (u : Int)) then Fw V r ((h : Int) + 1) (clA V (h : Int) (lvA 1 (l : Int))) (fsA 1 ((S : Int) - (s : Int))) (gsA 1 ((G : Int) - (u : Int))) else 0) + (if okA V 2 (l : Int) ((S : Int) - (s : Int)) ((G : Int) - (u : Int)) then Fw V r ((h : Int) + 1) (clA V (h : Int) (lvA 2 (l : Int))) (fsA 2 ((S : Int) - (s : Int))) (gsA 2 ((G : Int) - (u : Int))) else 0))
  rw [Int.mul_add, Int.mul_add, if_pos (Or.inl rfl)]
  congr 1
  · congr 1
    · rw [hZ]
      rfl
    · by_cases q : l + 1 < n ∧ s < S
      · rw [if_pos q, if_pos (Or.inr (Or.inl ⟨rfl, by omega, by omega⟩)), hZ, show ((l + 1 : Nat) : Int) = (l : Int) + 1 by omega, show (S : Int) - ((s + 1 : Nat) : Int) = (S : Int) - (s : Int) - 1 by omega]
        rfl
      · rw [if_neg q, if_neg (by unfold okA; omega), Int.mul_zero]
  · by_cases q : 0 < l ∧ u < G
    · rw [if_pos q, if_pos (Or.inr (Or.inr ⟨rfl, by omega, by omega⟩)), hZ, show ((l - 1 : Nat) : Int) = (l : Int) - 1 by omega, show (G : Int) - ((u + 1 : Nat) : Int) = (G : Int) - (u : Int) - 1 by omega]
      rfl
    · rw [if_neg q, if_neg (by unfold okA; omega), Int.mul_zero]
end WCL
