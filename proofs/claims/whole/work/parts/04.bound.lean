/-! a graph that needs k colours has at most k! * k^(n-k) colourings with k; our own -/
theorem sm_cg {F G : Nat → Nat} : ∀ l : List Nat, (∀ c, c ∈ l → F c = G c) → (l.map F).sum = (l.map G).sum := by
  intro l
  induction l with
  | nil => intro _; rfl
  | cons x l ih =>
    intro h
    rw [List.map_cons, List.map_cons, List.sum_cons, List.sum_cons, h x (List.mem_cons_self), ih (fun c hc => h c (List.mem_cons_of_mem _ hc))]
theorem sm_le {F G : Nat → Nat} : ∀ l : List Nat, (∀ c, c ∈ l → F c ≤ G c) → (l.map F).sum ≤ (l.map G).sum := by
  intro l
  induction l with
  | nil => intro _; exact Nat.le_refl _
  | cons x l ih =>
    intro h
    rw [List.map_cons, List.map_cons, List.sum_cons, List.sum_cons]
    exact Nat.add_le_add (h x (List.mem_cons_self)) (ih (fun c hc => h c (List.mem_cons_of_mem _ hc)))
theorem sm_add {F G : Nat → Nat} : ∀ l : List Nat, (l.map (fun c => F c + G c)).sum = (l.map F).sum + (l.map G).sum := by
  intro l
  induction l with
  | nil => rfl
  | cons x l ih =>
    rw [List.map_cons, List.map_cons, List.map_cons, List.sum_cons, List.sum_cons, List.sum_cons, ih]
    omega
theorem sm_mul {F : Nat → Nat} (x : Nat) : ∀ l : List Nat, (l.map (fun c => F c * x)).sum = (l.map F).sum * x := by
  intro l
  induction l with
  | nil => exact (Nat.zero_mul x).symm
  | cons y l ih =>
    rw [List.map_cons, List.map_cons, List.sum_cons, List.sum_cons, ih, Nat.add_mul]
theorem sm_k (x : Nat) : ∀ l : List Nat, (l.map (fun _ => x)).sum = l.length * x := by
  intro l
  induction l with
  | nil => exact (Nat.zero_mul x).symm
  | cons y l ih =>
    rw [List.map_cons, List.sum_cons, ih, List.length_cons, Nat.succ_mul, Nat.add_comm]
theorem sm_range {F : Nat → Nat} : ∀ k, ((List.range k).map F).sum = sl F k 0 := by
  intro k
  induction k with
  | zero => rfl
  | succ k ih =>
    rw [List.range_succ, List.map_append, List.sum_append, ih, sl_split k 1 0, Nat.zero_add]
    rfl
/-- the sum of W over all ways to give the points from j on, d of them, a number out of their lists -/
def ts (R : Nat → List Nat) : Nat → Nat → ((Nat → Nat) → Nat) → (Nat → Nat) → Nat
  | 0, _, W, f => W f
  | d + 1, j, W, f => ((R j).map (fun c => ts R d (j + 1) W (fu f j c))).sum
/-- how many ways there are -/
def pl (R : Nat → List Nat) : Nat → Nat → Nat
  | 0, _ => 1
  | d + 1, j => (R j).length * pl R d (j + 1)
theorem ts_cg {R R' : Nat → List Nat} {W : (Nat → Nat) → Nat} : ∀ d j f, (∀ i, j ≤ i → i < j + d → R i = R' i) → ts R d j W f = ts R' d j W f := by
  intro d
  induction d with
  | zero => intro j f _; rfl
  | succ d ih =>
    intro j f h
    show ((R j).map (fun c => ts R d (j + 1) W (fu f j c))).sum = ((R' j).map (fun c => ts R' d (j + 1) W (fu f j c))).sum
    rw [h j (by omega) (by omega)]
    exact sm_cg _ (fun c _ => ih (j + 1) _ (fun i h1 h2 => h i (by omega) (by omega)))
theorem pl_cg {R R' : Nat → List Nat} : ∀ d j, (∀ i, j ≤ i → i < j + d → R i = R' i) → pl R d j = pl R' d j := by
  intro d
  induction d with
  | zero => intro j _; rfl
  | succ d ih =>
    intro j h
    show (R j).length * pl R d (j + 1) = (R' j).length * pl R' d (j + 1)
    rw [h j (by omega) (by omega), ih (j + 1) (fun i h1 h2 => h i (by omega) (by omega))]
theorem ts_le {R : Nat → List Nat} {W W' : (Nat → Nat) → Nat} : ∀ d j f, (∀ h : Nat → Nat, (∀ i, j ≤ i → i < j + d → h i ∈ R i) → (∀ i, i < j → h i = f i) → W h ≤ W' h) → ts R d j W f ≤ ts R d j W' f := by
  intro d
  induction d with
  | zero => intro j f h; exact h f (fun i h1 h2 => by omega) (fun i _ => rfl)
  | succ d ih =>
    intro j f h
    refine sm_le _ (fun c hc => ih (j + 1) _ (fun g h1 h2 => h g (fun i h3 h4 => ?_) (fun i hi => ?_)))
    · by_cases e : i = j
      · subst e
        rw [h2 i (by omega), fu_s]
        exact hc
      · exact h1 i (by omega) (by omega)
    · rw [h2 i (by omega), fu_n (by omega)]
theorem ts_0 {R : Nat → List Nat} {W : (Nat → Nat) → Nat} (d j : Nat) (f : Nat → Nat) (h : ∀ g : Nat → Nat, (∀ i, j ≤ i → i < j + d → g i ∈ R i) → W g = 0) : ts R d j W f = 0 := by
  have e : ∀ d j f, ts R d j (fun _ => 0) f = 0 := by
    intro d
    induction d with
    | zero => intro j f; rfl
    | succ d ih =>
      intro j f
      show ((R j).map (fun c => ts R d (j + 1) (fun _ => 0) (fu f j c))).sum = 0
      rw [sm_cg _ (fun c _ => ih (j + 1) (fu f j c)), sm_k, Nat.mul_zero]
  have := ts_le (R := R) (W := W) (W' := fun _ => 0) d j f (fun g h1 _ => by rw [h g h1]; exact Nat.le_refl 0)
  rw [e] at this
  omega
theorem ts_pl {R : Nat → List Nat} {W : (Nat → Nat) → Nat} (hW : ∀ h, W h ≤ 1) : ∀ d j f, ts R d j W f ≤ pl R d j := by
  intro d
  induction d with
  | zero => intro j f; exact hW f
  | succ d ih =>
    intro j f
    show ((R j).map (fun c => ts R d (j + 1) W (fu f j c))).sum ≤ (R j).length * pl R d (j + 1)
    rw [← sm_k]
    exact sm_le _ (fun c _ => ih (j + 1) _)
theorem ts_split {R : Nat → List Nat} {W : (Nat → Nat) → Nat} {i : Nat} {l1 l2 : List Nat} (hi : R i = l1 ++ l2) : ∀ d j f, j ≤ i → i < j + d → ts R d j W f = ts (fu R i l1) d j W f + ts (fu R i l2) d j W f := by
  intro d
  induction d with
  | zero => intro j f h1 h2; omega
  | succ d ih =>
    intro j f h1 h2
    show ((R j).map (fun c => ts R d (j + 1) W (fu f j c))).sum = ((fu R i l1 j).map (fun c => ts (fu R i l1) d (j + 1) W (fu f j c))).sum + ((fu R i l2 j).map (fun c => ts (fu R i l2) d (j + 1) W (fu f j c))).sum
    by_cases e : i = j
    · subst e
      rw [fu_s, fu_s, hi, List.map_append, List.sum_append]
      congr 1
      · exact sm_cg _ (fun c _ => ts_cg d (i + 1) _ (fun a h3 h4 => (fu_n (by omega)).symm))
      · exact sm_cg _ (fun c _ => ts_cg d (i + 1) _ (fun a h3 h4 => (fu_n (by omega)).symm))
    · rw [fu_n (show j ≠ i by omega), fu_n (show j ≠ i by omega), ← sm_add]
      exact sm_cg _ (fun c _ => ih (j + 1) _ (by omega) (by omega))
theorem pl_split {R : Nat → List Nat} {i : Nat} {l1 l2 : List Nat} (hi : R i = l1 ++ l2) : ∀ d j, j ≤ i → i < j + d → pl R d j = pl (fu R i l1) d j + pl (fu R i l2) d j := by
  intro d
  induction d with
  | zero => intro j h1 h2; omega
  | succ d ih =>
    intro j h1 h2
    show (R j).length * pl R d (j + 1) = (fu R i l1 j).length * pl (fu R i l1) d (j + 1) + (fu R i l2 j).length * pl (fu R i l2) d (j + 1)
    by_cases e : i = j
    · subst e
      rw [fu_s, fu_s, hi, List.length_append, Nat.add_mul, pl_cg (R := fu R i l1) (R' := R) d (i + 1) (fun a h3 h4 => fu_n (by omega)), pl_cg (R := fu R i l2) (R' := R) d (i + 1) (fun a h3 h4 => fu_n (by omega))]
    · rw [fu_n (show j ≠ i by omega), fu_n (show j ≠ i by omega), ih (j + 1) (by omega) (by omega), Nat.mul_add]
theorem pl_fu {R : Nat → List Nat} {i : Nat} {l : List Nat} : ∀ d j, j ≤ i → i < j + d → pl (fu R i l) d j * (R i).length = pl R d j * l.length := by
  intro d
  induction d with
  | zero => intro j h1 h2; omega
  | succ d ih =>
    intro j h1 h2
    show (fu R i l j).length * pl (fu R i l) d (j + 1) * (R i).length = (R j).length * pl R d (j + 1) * l.length
    by_cases e : i = j
    · subst e
      rw [fu_s, pl_cg (R := fu R i l) (R' := R) d (i + 1) (fun a h3 h4 => fu_n (by omega))]
      rw [Nat.mul_comm l.length, Nat.mul_assoc, Nat.mul_comm l.length, ← Nat.mul_assoc, Nat.mul_comm (pl R d (i + 1))]
    · rw [fu_n (show j ≠ i by omega), Nat.mul_assoc, ih (j + 1) (by omega) (by omega), Nat.mul_assoc]
theorem pl_k {k : Nat} : ∀ d j, pl (fun _ => List.range k) d j = k ^ d := by
  intro d
  induction d with
  | zero => intro j; rfl
  | succ d ih =>
    intro j
    show (List.range k).length * pl (fun _ => List.range k) d (j + 1) = _
    rw [ih, List.length_range, Nat.pow_succ, Nat.mul_comm]
theorem fu_fu {α : Type} (f : Nat → α) (i : Nat) (a b : α) : fu (fu f i a) i b = fu f i b := by
  funext j
  by_cases e : j = i
  · subst e; rw [fu_s, fu_s]
  · rw [fu_n e, fu_n e, fu_n e]
theorem fu_id {α : Type} (f : Nat → α) (i : Nat) : fu f i (f i) = f := by
  funext j
  by_cases e : j = i
  · subst e; rw [fu_s]
  · rw [fu_n e]
/-- one point's number fixed, summed over its list -/
theorem ts_fix {W : (Nat → Nat) → Nat} {i n : Nat} (hi : i < n) (f : Nat → Nat) : ∀ (l : List Nat) (R : Nat → List Nat), R i = l → ts R n 0 W f = (l.map (fun c => ts (fu R i [c]) n 0 W f)).sum := by
  intro l
  induction l with
  | nil =>
    intro R h
    refine ts_0 n 0 f (fun g hg => ?_)
    have := hg i (by omega) (by omega)
    rw [h] at this
    cases this
  | cons x l ih =>
    intro R h
    rw [ts_split (l1 := [x]) (l2 := l) h n 0 f (by omega) (by omega), ih (fu R i l) fu_s, List.map_cons, List.sum_cons]
    congr 1
    exact sm_cg _ (fun c _ => by rw [fu_fu])
theorem ts_sw {R R' : Nat → List Nat} {W : (Nat → Nat) → Nat} {a b n : Nat} (hR : ∀ i (F : Nat → Nat), ((R' i).map F).sum = ((R i).map (fun c => F (sw a b c))).sum) (hW : ∀ h h' : Nat → Nat, (∀ i, i < n → h' i = sw a b (h i)) → W h' = W h) : ∀ d j f f', j + d = n → (∀ i, i < j → f' i = sw a b (f i)) → ts R' d j W f' = ts R d j W f := by
  intro d
  induction d with
  | zero => intro j f f' hj h; exact hW f f' (fun i hi => h i (by omega))
  | succ d ih =>
    intro j f f' hj h
    show ((R' j).map (fun c => ts R' d (j + 1) W (fu f' j c))).sum = ((R j).map (fun c => ts R d (j + 1) W (fu f j c))).sum
    rw [hR]
    refine sm_cg _ (fun c _ => ih (j + 1) _ _ (by omega) (fun i hi => ?_))
    by_cases e : i = j
    · subst e; rw [fu_s, fu_s]
    · rw [fu_n e, fu_n e, h i (by omega)]
/-- proper on the points of U -/
def Pr (T : Nat → Nat → Prop) (n : Nat) (U : Nat → Prop) (f : Nat → Nat) : Prop := ∀ p q, p < n → q < p → U p → U q → T p q → f q ≠ f p
def CU (T : Nat → Nat → Prop) (n : Nat) (U : Nat → Prop) (k : Nat) : Prop := ∃ g : Nat → Nat, (∀ i, i < n → U i → g i < k) ∧ Pr T n U g
noncomputable def wI (P : Prop) : Nat := @ite _ P (Classical.propDecidable _) 1 0
theorem wI_t {P : Prop} (h : P) : wI P = 1 := if_pos h
theorem wI_f {P : Prop} (h : ¬ P) : wI P = 0 := if_neg h
theorem wI_le {P Q : Prop} (h : P → Q) : wI P ≤ wI Q := by
  by_cases p : P
  · rw [wI_t p, wI_t (h p)]; exact Nat.le_refl 1
  · rw [wI_f p]; exact Nat.zero_le _
theorem wI_1 (P : Prop) : wI P ≤ 1 := by
  by_cases p : P
  · rw [wI_t p]; exact Nat.le_refl 1
  · rw [wI_f p]; exact Nat.zero_le _
noncomputable def NU (T : Nat → Nat → Prop) (n k : Nat) (U : Nat → Prop) : Nat := ts (fun _ => List.range k) n 0 (fun f => wI (Pr T n U f)) (fun _ => 0)
theorem Pr_sub {T : Nat → Nat → Prop} {n : Nat} {U V : Nat → Prop} {f : Nat → Nat} (h : ∀ i, V i → U i) (p : Pr T n U f) : Pr T n V f := fun a b h1 h2 h3 h4 h5 => p a b h1 h2 (h a h3) (h b h4) h5
/-- every point either k1 or below k1: set against the colourings below k1 of the others -/
theorem ts_low {T : Nat → Nat → Prop} {n k1 : Nat} {U : Nat → Prop} {R : Nat → List Nat} (hR : ∀ i, i < n → R i = [k1] ∨ R i = List.range k1) : ∀ d j f g, j + d = n → (∀ i, i < j → ¬ R i = [k1] → g i = f i) → ts R d j (fun f => wI (Pr T n U f)) f * k1 ^ d ≤ ts (fun _ => List.range k1) d j (fun f => wI (Pr T n (fun i => U i ∧ ¬ R i = [k1]) f)) g * pl R d j := by
  intro d
  induction d with
  | zero =>
    intro j f g hj h
    show wI _ * 1 ≤ wI _ * 1
    rw [Nat.mul_one, Nat.mul_one]
    refine wI_le (fun p a b h1 h2 h3 h4 h5 => ?_)
    rw [h a (by omega) h3.2, h b (by omega) h4.2]
    exact p a b h1 h2 h3.1 h4.1 h5
  | succ d ih =>
    intro j f g hj h
    show ((R j).map (fun c => ts R d (j + 1) _ (fu f j c))).sum * k1 ^ (d + 1) ≤ ((List.range k1).map (fun c => ts (fun _ => List.range k1) d (j + 1) _ (fu g j c))).sum * ((R j).length * pl R d (j + 1))
    by_cases e : R j = [k1]
    · rw [e, List.map_cons, List.map_nil, List.sum_cons, List.sum_nil, Nat.add_zero, List.length_cons, List.length_nil, Nat.zero_add, Nat.one_mul, Nat.pow_succ, ← Nat.mul_assoc, ← sm_mul, Nat.mul_comm _ k1]
      have e2 := sm_k (ts R d (j + 1) (fun f => wI (Pr T n U f)) (fu f j k1) * k1 ^ d) (List.range k1)
      rw [List.length_range] at e2
      rw [← e2]
      refine sm_le _ (fun c _ => ih (j + 1) _ _ (by omega) (fun i hi hn => ?_))
      by_cases z : i = j
      · subst z; exact absurd e hn
      · rw [fu_n z, fu_n z, h i (by omega) hn]
    · rcases hR j (by omega) with e0 | e1
      · exact absurd e0 e
      · rw [e1, List.length_range, Nat.pow_succ, ← Nat.mul_assoc, Nat.mul_comm k1 (pl R d (j + 1)), ← Nat.mul_assoc]
        refine Nat.mul_le_mul_right k1 ?_
        rw [← sm_mul, ← sm_mul]
        refine sm_le _ (fun c _ => ih (j + 1) _ _ (by omega) (fun i hi hn => ?_))
        by_cases z : i = j
        · subst z; rw [fu_s, fu_s]
        · rw [fu_n z, fu_n z, h i (by omega) hn]
