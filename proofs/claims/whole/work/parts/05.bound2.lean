/-! the bound, second half; our own -/
/-- the claim at k colours -/
def TH (T : Nat → Nat → Prop) (n k : Nat) : Prop := ∀ U : Nat → Prop, (2 ≤ k → ¬ CU T n U (k - 1)) → NU T n k U * k ^ k ≤ fac k * k ^ n
theorem th_1 (T : Nat → Nat → Prop) (n : Nat) : TH T n 1 := by
  intro U _
  have h := ts_pl (R := fun _ => List.range 1) (W := fun f => wI (Pr T n U f)) (fun h => wI_1 _) n 0 (fun _ => 0)
  rw [pl_k, Nat.one_pow] at h
  show NU T n 1 U * 1 ^ 1 ≤ 1 * 1 * 1 ^ n
  rw [Nat.one_pow, Nat.one_pow, Nat.mul_one]
  exact h
theorem th_low {T : Nat → Nat → Prop} {n k1 : Nat} (hk : 1 ≤ k1) (ih : TH T n k1) {U : Nat → Prop} (hU : ¬ CU T n U k1) {R : Nat → List Nat} (hR : ∀ i, i < n → R i = [k1] ∨ R i = List.range k1) : ts R n 0 (fun f => wI (Pr T n U f)) (fun _ => 0) * k1 ^ k1 ≤ fac k1 * pl R n 0 := by
  by_cases z : ∃ p q, p < n ∧ q < p ∧ U p ∧ U q ∧ T p q ∧ R p = [k1] ∧ R q = [k1]
  · obtain ⟨p, q, h1, h2, h3, h4, h5, h6, h7⟩ := z
    have e : ts R n 0 (fun f => wI (Pr T n U f)) (fun _ => 0) = 0 := by
      refine ts_0 n 0 _ (fun g hg => wI_f (fun w => w p q h1 h2 h3 h4 h5 ?_))
      have a := hg p (by omega) (by omega)
      have b := hg q (by omega) (by omega)
      rw [h6, List.mem_singleton] at a
      rw [h7, List.mem_singleton] at b
      rw [a, b]
    rw [e, Nat.zero_mul]
    exact Nat.zero_le _
  · have h1 : ¬ CU T n (fun i => U i ∧ ¬ R i = [k1]) (k1 - 1) := by
      rintro ⟨g, g1, g2⟩
      apply hU
      refine ⟨fun i => @ite _ (R i = [k1]) (Classical.propDecidable _) (k1 - 1) (g i), fun i hi hu => ?_, fun p q h1 h2 h3 h4 h5 => ?_⟩
      · dsimp only
        by_cases e : R i = [k1]
        · rw [if_pos e]; omega
        · rw [if_neg e]
          have := g1 i hi ⟨hu, e⟩
          omega
      · dsimp only
        by_cases e : R p = [k1]
        · by_cases e' : R q = [k1]
          · exact absurd ⟨p, q, h1, h2, h3, h4, h5, e, e'⟩ z
          · rw [if_pos e, if_neg e']
            have := g1 q (by omega) ⟨h4, e'⟩
            omega
        · by_cases e' : R q = [k1]
          · rw [if_neg e, if_pos e']
            have := g1 p (by omega) ⟨h3, e⟩
            omega
          · rw [if_neg e, if_neg e']
            exact g2 p q h1 h2 ⟨h3, e⟩ ⟨h4, e'⟩ h5
    have h2 := ih (fun i => U i ∧ ¬ R i = [k1]) (fun _ => h1)
    have h3 := ts_low (T := T) (U := U) hR n 0 (fun _ => 0) (fun _ => 0) (by omega) (fun i hi _ => rfl)
    have hpos : 0 < k1 ^ n := Nat.pow_pos hk
    refine Nat.le_of_mul_le_mul_right ?_ hpos
    generalize ts R n 0 (fun f => wI (Pr T n U f)) (fun _ => 0) = t at h3 ⊢
    generalize pl R n 0 = l at h3 ⊢
    have h4 : NU T n k1 (fun i => U i ∧ ¬ R i = [k1]) = ts (fun _ => List.range k1) n 0 (fun f => wI (Pr T n (fun i => U i ∧ ¬ R i = [k1]) f)) (fun _ => 0) := rfl
    rw [← h4] at h3
    generalize NU T n k1 (fun i => U i ∧ ¬ R i = [k1]) = m at h2 h3
    generalize k1 ^ k1 = a at h2 ⊢
    generalize k1 ^ n = b at h2 h3 ⊢
    generalize fac k1 = c at h2 ⊢
    calc t * a * b = (t * b) * a := by rw [Nat.mul_assoc, Nat.mul_comm a b, ← Nat.mul_assoc]
      _ ≤ (m * l) * a := Nat.mul_le_mul_right a h3
      _ = (m * a) * l := by rw [Nat.mul_assoc, Nat.mul_comm l a, ← Nat.mul_assoc]
      _ ≤ (c * b) * l := Nat.mul_le_mul_right l h2
      _ = c * l * b := by rw [Nat.mul_assoc, Nat.mul_comm b l, ← Nat.mul_assoc]
theorem th_typ {T : Nat → Nat → Prop} {n k1 : Nat} (hk : 1 ≤ k1) (ih : TH T n k1) {U : Nat → Prop} (hU : ¬ CU T n U k1) : ∀ (m : Nat) (R : Nat → List Nat), m ≤ n → (∀ i, i < n → R i = [k1] ∨ R i = List.range k1 ∨ (i < m ∧ R i = List.range (k1 + 1))) → ts R n 0 (fun f => wI (Pr T n U f)) (fun _ => 0) * k1 ^ k1 ≤ fac k1 * pl R n 0 := by
  intro m
  induction m with
  | zero =>
    intro R _ h
    refine th_low hk ih hU (fun i hi => ?_)
    rcases h i hi with a | a | a
    · exact Or.inl a
    · exact Or.inr a
    · omega
  | succ m ihm =>
    intro R hm h
    by_cases e : R m = List.range (k1 + 1)
    · have e2 : R m = List.range k1 ++ [k1] := by rw [e, List.range_succ]
      rw [ts_split e2 n 0 _ (by omega) (by omega), pl_split e2 n 0 (by omega) (by omega), Nat.add_mul, Nat.mul_add]
      refine Nat.add_le_add (ihm _ (by omega) (fun i hi => ?_)) (ihm _ (by omega) (fun i hi => ?_))
      · by_cases z : i = m
        · subst z; rw [fu_s]; exact Or.inr (Or.inl rfl)
        · rw [fu_n z]
          rcases h i hi with a | a | a
          · exact Or.inl a
          · exact Or.inr (Or.inl a)
          · exact Or.inr (Or.inr ⟨by omega, a.2⟩)
      · by_cases z : i = m
        · subst z; rw [fu_s]; exact Or.inl rfl
        · rw [fu_n z]
          rcases h i hi with a | a | a
          · exact Or.inl a
          · exact Or.inr (Or.inl a)
          · exact Or.inr (Or.inr ⟨by omega, a.2⟩)
    · refine ihm R (by omega) (fun i hi => ?_)
      rcases h i hi with a | a | a
      · exact Or.inl a
      · exact Or.inr (Or.inl a)
      · by_cases z : i = m
        · subst z; exact absurd a.2 e
        · exact Or.inr (Or.inr ⟨by omega, a.2⟩)
/-- a least set of points that still needs more than k colours -/
theorem th_crit {T : Nat → Nat → Prop} {n k : Nat} {U : Nat → Prop} (hU : ¬ CU T n U k) : ∀ m, ∃ V : Nat → Prop, (∀ i, V i → U i) ∧ ¬ CU T n V k ∧ ∀ i, i < m → V i → CU T n (fun j => V j ∧ j ≠ i) k := by
  intro m
  induction m with
  | zero => exact ⟨U, fun i h => h, hU, fun i hi => by omega⟩
  | succ m ih =>
    obtain ⟨V, h1, h2, h3⟩ := ih
    by_cases z : CU T n (fun j => V j ∧ j ≠ m) k
    · refine ⟨V, h1, h2, fun i hi hv => ?_⟩
      by_cases e : i = m
      · subst e; exact z
      · exact h3 i (by omega) hv
    · refine ⟨fun j => V j ∧ j ≠ m, fun i h => h1 i h.1, z, fun i hi hv => ?_⟩
      have hv2 : i ≠ m := hv.2
      obtain ⟨g, g1, g2⟩ := h3 i (by omega) hv.1
      exact ⟨g, fun j hj hu => g1 j hj ⟨hu.1.1, hu.2⟩, Pr_sub (fun j hj => ⟨hj.1.1, hj.2⟩) g2⟩
/-- v and w are joined -/
def Ed (T : Nat → Nat → Prop) (v w : Nat) : Prop := (w < v ∧ T v w) ∨ (v < w ∧ T w v)
theorem Pr_ed {T : Nat → Nat → Prop} {n : Nat} {U : Nat → Prop} {f : Nat → Nat} {v w : Nat} (h : Pr T n U f) (hv : v < n) (hw : w < n) (uv : U v) (uw : U w) (e : Ed T v w) : f w ≠ f v := by
  rcases e with ⟨a, b⟩ | ⟨a, b⟩
  · exact h v w hv a uv uw b
  · exact fun z => h w v hw a uw uv b z.symm
/-- in such a set each point has a neighbour of every colour -/
theorem th_nb {T : Nat → Nat → Prop} {n k : Nat} {V : Nat → Prop} {v : Nat} (hV : ¬ CU T n V k) {g : Nat → Nat} (g1 : ∀ i, i < n → (V i ∧ i ≠ v) → g i < k) (g2 : Pr T n (fun j => V j ∧ j ≠ v) g) {c : Nat} (hc : c < k) : ∃ w, w < n ∧ V w ∧ w ≠ v ∧ Ed T v w ∧ g w = c := by
  apply Classical.byContradiction
  intro z
  apply hV
  refine ⟨fu g v c, fun i hi hu => ?_, fun p q h1 h2 h3 h4 h5 => ?_⟩
  · by_cases e : i = v
    · subst e; rw [fu_s]; exact hc
    · rw [fu_n e]; exact g1 i hi ⟨hu, e⟩
  · by_cases e : p = v
    · subst e
      rw [fu_s, fu_n (by omega)]
      exact fun w => z ⟨q, by omega, h4, by omega, Or.inl ⟨h2, h5⟩, w⟩
    · rw [fu_n e]
      by_cases e' : q = v
      · subst e'
        rw [fu_s]
        exact fun w => z ⟨p, h1, h3, e, Or.inr ⟨h2, h5⟩, w.symm⟩
      · rw [fu_n e']
        exact g2 p q h1 h2 ⟨h3, e⟩ ⟨h4, e'⟩ h5
def Rs (k1 v : Nat) (w : Nat → Nat) : Nat → (Nat → List Nat)
  | 0 => fu (fun _ => List.range (k1 + 1)) v [k1]
  | c + 1 => fu (Rs k1 v w c) (w c) (List.range k1)
theorem Rs_o {k1 v : Nat} {w : Nat → Nat} {i : Nat} : ∀ c, i ≠ v → (∀ a, a < c → w a ≠ i) → Rs k1 v w c i = List.range (k1 + 1) := by
  intro c
  induction c with
  | zero => intro h _; exact fu_n h
  | succ c ih =>
    intro h h2
    show fu (Rs k1 v w c) (w c) (List.range k1) i = _
    rw [fu_n (fun e => h2 c (by omega) e.symm), ih h (fun a ha => h2 a (by omega))]
theorem Rs_v {k1 v : Nat} {w : Nat → Nat} : ∀ c, (∀ a, a < c → w a ≠ v) → Rs k1 v w c v = [k1] := by
  intro c
  induction c with
  | zero => intro _; exact fu_s
  | succ c ih =>
    intro h
    show fu (Rs k1 v w c) (w c) (List.range k1) v = _
    rw [fu_n (fun e => h c (by omega) e.symm), ih (fun a ha => h a (by omega))]
theorem Rs_t {k1 v : Nat} {w : Nat → Nat} {i : Nat} : ∀ c, Rs k1 v w c i = [k1] ∨ Rs k1 v w c i = List.range k1 ∨ Rs k1 v w c i = List.range (k1 + 1) := by
  intro c
  induction c with
  | zero =>
    by_cases e : i = v
    · subst e; exact Or.inl fu_s
    · exact Or.inr (Or.inr (fu_n e))
  | succ c ih =>
    by_cases e : i = w c
    · subst e; exact Or.inr (Or.inl fu_s)
    · have : Rs k1 v w (c + 1) i = Rs k1 v w c i := fu_n e
      rw [this]
      exact ih
theorem th_step {T : Nat → Nat → Prop} {n k1 : Nat} (hk : 1 ≤ k1) (ih : TH T n k1) : TH T n (k1 + 1) := by
  intro U hU
  have hU2 := hU (by omega)
  rw [Nat.add_sub_cancel] at hU2
  obtain ⟨V, hV1, hV2, hV3⟩ := th_crit hU2 n
  have hmono : NU T n (k1 + 1) U ≤ NU T n (k1 + 1) V := ts_le n 0 _ (fun h _ _ => wI_le (Pr_sub hV1))
  obtain ⟨v, hv, hvV⟩ : ∃ v, v < n ∧ V v := by
    apply Classical.byContradiction
    intro z
    exact hV2 ⟨fun _ => 0, fun i hi hu => absurd ⟨i, hi, hu⟩ z, fun p q h1 h2 h3 h4 h5 => absurd ⟨p, h1, h3⟩ z⟩
  obtain ⟨g, g1, g2⟩ := hV3 v hv hvV
  have hw0 : ∀ c, ∃ w, c < k1 → w < n ∧ V w ∧ w ≠ v ∧ Ed T v w ∧ g w = c := by
    intro c
    by_cases hc : c < k1
    · obtain ⟨w, hw⟩ := th_nb hV2 g1 g2 hc
      exact ⟨w, fun _ => hw⟩
    · exact ⟨0, fun z => absurd z hc⟩
  have hw : ∀ c, c < k1 → Classical.choose (hw0 c) < n ∧ V (Classical.choose (hw0 c)) ∧ Classical.choose (hw0 c) ≠ v ∧ Ed T v (Classical.choose (hw0 c)) ∧ g (Classical.choose (hw0 c)) = c := fun c hc => Classical.choose_spec (hw0 c) hc
  obtain ⟨w, hw⟩ : ∃ w : Nat → Nat, ∀ c, c < k1 → w c < n ∧ V (w c) ∧ w c ≠ v ∧ Ed T v (w c) ∧ g (w c) = c := ⟨fun c => Classical.choose (hw0 c), hw⟩
  -- the colour of v may be taken as the last one
  have hsym : NU T n (k1 + 1) V = (k1 + 1) * ts (Rs k1 v w 0) n 0 (fun f => wI (Pr T n V f)) (fun _ => 0) := by
    have e1 := ts_fix (W := fun f => wI (Pr T n V f)) hv (fun _ => 0) (List.range (k1 + 1)) (fun _ => List.range (k1 + 1)) rfl
    have e2 : ∀ c, c ∈ List.range (k1 + 1) → ts (fu (fun _ => List.range (k1 + 1)) v [c]) n 0 (fun f => wI (Pr T n V f)) (fun _ => 0) = ts (Rs k1 v w 0) n 0 (fun f => wI (Pr T n V f)) (fun _ => 0) := by
      intro c hc
      rw [List.mem_range] at hc
      refine ts_sw (a := k1) (b := c) (n := n) (fun i F => ?_) (fun h h' hh => ?_) n 0 _ _ (by omega) (fun i hi => by omega)
      · by_cases e : i = v
        · subst e
          show ((fu _ i [c] i).map F).sum = ((fu _ i [k1] i).map _).sum
          rw [fu_s, fu_s, List.map_cons, List.map_cons, List.map_nil, List.map_nil, sw_a]
        · show ((fu _ v [c] i).map F).sum = ((fu _ v [k1] i).map _).sum
          rw [fu_n e, fu_n e, sm_range, sm_range]
          exact (sl_sw (by omega) hc).symm
      · have : Pr T n V h' ↔ Pr T n V h := by
          constructor
          · intro z p q h1 h2 h3 h4 h5 e
            exact z p q h1 h2 h3 h4 h5 (by rw [hh p h1, hh q (by omega), e])
          · intro z p q h1 h2 h3 h4 h5 e
            rw [hh p h1, hh q (by omega)] at e
            exact z p q h1 h2 h3 h4 h5 (sw_inj e)
        exact congrArg wI (propext this)
    show ts (fun _ => List.range (k1 + 1)) n 0 (fun f => wI (Pr T n V f)) (fun _ => 0) = _
    rw [e1, sm_cg _ e2, sm_k, List.length_range]
  -- its neighbours are below
  have hlow : ∀ c, c ≤ k1 → ts (Rs k1 v w 0) n 0 (fun f => wI (Pr T n V f)) (fun _ => 0) = ts (Rs k1 v w c) n 0 (fun f => wI (Pr T n V f)) (fun _ => 0) ∧ pl (Rs k1 v w c) n 0 * (k1 + 1) ^ (c + 1) = (k1 + 1) ^ n * k1 ^ c := by
    intro c
    induction c with
    | zero =>
      intro _
      refine ⟨rfl, ?_⟩
      have := pl_fu (R := fun _ => List.range (k1 + 1)) (i := v) (l := [k1]) n 0 (by omega) (by omega)
      rw [pl_k, List.length_range] at this
      rw [Nat.zero_add, Nat.pow_one, Nat.pow_zero]
      exact this
    | succ c ihc =>
      intro hc
      obtain ⟨i1, i2⟩ := ihc (by omega)
      obtain ⟨w1, w2, w3, w4, w5⟩ := hw c (by omega)
      have hR : Rs k1 v w c (w c) = List.range (k1 + 1) := Rs_o c w3 (fun a ha e => by
        have x := (hw a (by omega)).2.2.2.2
        rw [e, w5] at x
        omega)
      have hRv : Rs k1 v w c v = [k1] := Rs_v c (fun a ha => (hw a (by omega)).2.2.1)
      constructor
      · rw [i1, ts_split (show Rs k1 v w c (w c) = List.range k1 ++ [k1] by rw [hR, List.range_succ]) n 0 _ (by omega) (by omega)]
        have e0 : ts (fu (Rs k1 v w c) (w c) [k1]) n 0 (fun f => wI (Pr T n V f)) (fun _ => 0) = 0 := by
          refine ts_0 n 0 _ (fun h hh => wI_f (fun z => Pr_ed z hv w1 hvV w2 w4 ?_))
          have a := hh v (by omega) (by omega)
          have b := hh (w c) (by omega) (by omega)
          rw [fu_n (fun e => w3 e.symm), hRv, List.mem_singleton] at a
          rw [fu_s, List.mem_singleton] at b
          rw [a, b]
        rw [e0]
        rfl
      · have := pl_fu (R := Rs k1 v w c) (i := w c) (l := List.range k1) n 0 (by omega) (by omega)
        rw [hR, List.length_range, List.length_range] at this
        show pl (fu (Rs k1 v w c) (w c) (List.range k1)) n 0 * (k1 + 1) ^ (c + 1 + 1) = _
        rw [Nat.pow_succ (n := k1 + 1) (m := c + 1), Nat.mul_comm ((k1 + 1) ^ (c + 1)), ← Nat.mul_assoc, this, Nat.mul_assoc, Nat.mul_comm k1, ← Nat.mul_assoc, i2, Nat.mul_assoc, ← Nat.pow_succ]
  obtain ⟨l1, l2⟩ := hlow k1 (Nat.le_refl _)
  have htyp := th_typ hk ih hV2 n (Rs k1 v w k1) (Nat.le_refl n) (fun i hi => by
    rcases Rs_t (k1 := k1) (v := v) (w := w) (i := i) k1 with a | a | a
    · exact Or.inl a
    · exact Or.inr (Or.inl a)
    · exact Or.inr (Or.inr ⟨hi, a⟩))
  rw [← l1] at htyp
  have hpos : 0 < k1 ^ k1 := Nat.pow_pos hk
  have hf : fac (k1 + 1) = (k1 + 1) * fac k1 := rfl
  refine Nat.le_trans (Nat.mul_le_mul_right _ hmono) ?_
  rw [hsym, hf]
  generalize ts (Rs k1 v w 0) n 0 (fun f => wI (Pr T n V f)) (fun _ => 0) = t at htyp
  generalize pl (Rs k1 v w k1) n 0 = l at htyp l2
  generalize k1 ^ k1 = a at htyp l2 hpos
  generalize (k1 + 1) ^ (k1 + 1) = b at l2 ⊢
  generalize (k1 + 1) ^ n = c at l2 ⊢
  generalize fac k1 = d at htyp ⊢
  have h2 : t * b ≤ d * c := by
    refine Nat.le_of_mul_le_mul_right ?_ hpos
    calc t * b * a = (t * a) * b := by rw [Nat.mul_assoc, Nat.mul_comm b a, ← Nat.mul_assoc]
      _ ≤ (d * l) * b := Nat.mul_le_mul_right b htyp
      _ = d * (l * b) := Nat.mul_assoc _ _ _
      _ = d * c * a := by rw [l2, Nat.mul_assoc]
  rw [Nat.mul_assoc, Nat.mul_assoc]
  exact Nat.mul_le_mul_left _ h2
theorem th_all (T : Nat → Nat → Prop) (n : Nat) : ∀ k, 1 ≤ k → TH T n k := by
  intro k
  induction k with
  | zero => intro h; omega
  | succ k ih =>
    intro _
    by_cases e : k = 0
    · subst e; exact th_1 T n
    · exact th_step (by omega) (ih (by omega))
/-- the list of the walk is no longer than the sum -/
theorem dl_ts (T : Nat → Nat → Prop) {n k : Nat} : ∀ d j f, j + d = n → (∀ i, i < j → AF T i f (f i)) → (dl (AF T) k d j f).length ≤ ts (fun _ => List.range k) d j (fun f => wI (Pr T n (fun _ => True) f)) f := by
  intro d
  induction d with
  | zero =>
    intro j f hj h
    show 1 ≤ wI _
    rw [wI_t (show Pr T n (fun _ => True) f from fun p q h1 h2 _ _ h5 => h p (by omega) q h2 h5)]
    exact Nat.le_refl 1
  | succ d ih =>
    intro j f hj h
    show (ds _ k 0).length ≤ ((List.range k).map (fun c => ts (fun _ => List.range k) d (j + 1) _ (fu f j c))).sum
    rw [ds_len, ← sm_range]
    refine sm_le _ (fun c _ => ?_)
    by_cases a : AF T j f c
    · rw [if_pos a]
      refine ih (j + 1) _ (by omega) (fun i hi => ?_)
      by_cases e : i = j
      · subst e
        rw [fu_s]
        exact AF_loc T i f _ c (fun q hq => (fu_n (by omega)).symm) a
      · rw [fu_n e]
        exact AF_loc T i f _ _ (fun q hq => (fu_n (by omega)).symm) (h i (by omega))
    · rw [if_neg a]
      exact Nat.zero_le _
theorem bd_num : ∀ k, k < 9 → 1 ≤ k → ∀ x, x * k ^ k ≤ fac k * k ^ 8 → x ≤ 50000 := by
  intro k hk h1 x h
  rcases (show k = 1 ∨ k = 2 ∨ k = 3 ∨ k = 4 ∨ k = 5 ∨ k = 6 ∨ k = 7 ∨ k = 8 by omega) with e | e | e | e | e | e | e | e <;> subst e <;> simp only [fac] at h <;> omega
theorem dl_bound (T : Nat → Nat → Prop) {n k : Nat} (hn : n ≤ 8) (hk : 1 ≤ k) (hk8 : k ≤ 8) (h : 2 ≤ k → ¬ Col T n (k - 1)) : (dl (AF T) k n 0 (fun _ => 0)).length ≤ 50000 := by
  have h1 := dl_ts T (n := n) (k := k) n 0 (fun _ => 0) (by omega) (fun i hi => by omega)
  have h2 := th_all T n k hk (fun _ => True) (fun z => by
    rintro ⟨g, g1, g2⟩
    exact h z ⟨g, fun p hp => ⟨g1 p hp trivial, fun q hq t => g2 p q hp hq trivial trivial t⟩⟩)
  refine bd_num k (by omega) hk _ (Nat.le_trans (Nat.mul_le_mul_right _ h1) (Nat.le_trans h2 (Nat.mul_le_mul_left _ ?_)))
  exact Nat.pow_le_pow_right hk hn
