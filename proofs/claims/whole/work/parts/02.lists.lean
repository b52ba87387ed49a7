/-! colourings as functions; the tree of a walk as lists; our own -/
def fu {α : Type} (f : Nat → α) (j : Nat) (c : α) : Nat → α := fun i => if i = j then c else f i
theorem fu_s {α : Type} {f : Nat → α} {j : Nat} {c : α} : fu f j c j = c := if_pos rfl
theorem fu_n {α : Type} {f : Nat → α} {i j : Nat} {c : α} (h : i ≠ j) : fu f j c i = f i := if_neg h
/-- f below p, and 0 from there on -/
def tc (f : Nat → Nat) (p : Nat) : Nat → Nat := fun i => if i < p then f i else 0
theorem tc_l {f : Nat → Nat} {p i : Nat} (h : i < p) : tc f p i = f i := if_pos h
theorem tc_g {f : Nat → Nat} {p i : Nat} (h : ¬ i < p) : tc f p i = 0 := if_neg h
theorem tc_fu (f : Nat → Nat) (p c : Nat) : tc (fu f p c) (p + 1) = fu (tc f p) p c := by
  funext i
  rcases Nat.lt_trichotomy i p with h | h | h
  · rw [tc_l (by omega), fu_n (by omega), fu_n (by omega), tc_l h]
  · subst h
    rw [tc_l (by omega), fu_s, fu_s]
  · rw [tc_g (by omega), fu_n (by omega), tc_g (by omega)]
theorem tc_cg {f g : Nat → Nat} {p : Nat} (h : ∀ i, i < p → f i = g i) : tc f p = tc g p := by
  funext i
  by_cases hi : i < p
  · rw [tc_l hi, tc_l hi, h i hi]
  · rw [tc_g hi, tc_g hi]
/-- the lists of r colours from c on, one behind another -/
def ds {α : Type} (g : Nat → List α) : Nat → Nat → List α
  | 0, _ => []
  | r + 1, c => g c ++ ds g r (c + 1)
theorem ds_nil {α : Type} (g : Nat → List α) : ∀ r c, (∀ i, c ≤ i → i < c + r → g i = []) → ds g r c = [] := by
  intro r
  induction r with
  | zero => intro c _; rfl
  | succ r ih =>
    intro c h
    show g c ++ ds g r (c + 1) = []
    rw [h c (by omega) (by omega), ih (c + 1) (fun i h1 h2 => h i (by omega) (by omega))]
    rfl
theorem ds_cg {α : Type} {g g' : Nat → List α} : ∀ r c, (∀ i, c ≤ i → i < c + r → g i = g' i) → ds g r c = ds g' r c := by
  intro r
  induction r with
  | zero => intro c _; rfl
  | succ r ih =>
    intro c h
    show g c ++ ds g r (c + 1) = g' c ++ ds g' r (c + 1)
    rw [h c (by omega) (by omega), ih (c + 1) (fun i h1 h2 => h i (by omega) (by omega))]
theorem ds_mem {α : Type} {g : Nat → List α} {x : α} : ∀ r c, x ∈ ds g r c ↔ ∃ i, c ≤ i ∧ i < c + r ∧ x ∈ g i := by
  intro r
  induction r with
  | zero =>
    intro c
    constructor
    · intro h; cases h
    · rintro ⟨i, h1, h2, _⟩; omega
  | succ r ih =>
    intro c
    show x ∈ g c ++ ds g r (c + 1) ↔ _
    rw [List.mem_append, ih (c + 1)]
    constructor
    · rintro (h | ⟨i, h1, h2, h3⟩)
      · exact ⟨c, by omega, by omega, h⟩
      · exact ⟨i, by omega, by omega, h3⟩
    · rintro ⟨i, h1, h2, h3⟩
      by_cases e : i = c
      · subst e; exact Or.inl h3
      · exact Or.inr ⟨i, by omega, by omega, h3⟩
/-- one colour taken off -/
theorem ds_step {α : Type} (g : Nat → List α) {k c : Nat} (h : c < k) : ds g (k - c) c = g c ++ ds g (k - (c + 1)) (c + 1) := by
  obtain ⟨r, hr⟩ : ∃ r, k - c = r + 1 := ⟨k - c - 1, by omega⟩
  rw [hr, show k - (c + 1) = r by omega]
  rfl
theorem ds_skip {α : Type} (g : Nat → List α) {k c : Nat} : ∀ e c', c' = c + e → c' ≤ k → (∀ i, c ≤ i → i < c' → g i = []) → ds g (k - c) c = ds g (k - c') c' := by
  intro e
  induction e with
  | zero => intro c' h _ _; rw [show c' = c by omega]
  | succ e ih =>
    intro c' h hk hn
    rw [ih (c + e) rfl (by omega) (fun i h1 h2 => hn i h1 (by omega)), ds_step g (by omega : c + e < k), hn (c + e) (by omega) (by omega), show c + e + 1 = c' by omega]
    rfl
/-- all the colourings of the points from j on, d of them, behind f, in order -/
noncomputable def dl (A : Nat → (Nat → Nat) → Nat → Prop) (k : Nat) : Nat → Nat → (Nat → Nat) → List (Nat → Nat)
  | 0, _, f => [f]
  | d + 1, j, f => ds (fun c => @ite _ (A j f c) (Classical.propDecidable _) (dl A k d (j + 1) (fu f j c)) []) k 0
/-- those in which point p has colour c -/
noncomputable def gg (A : Nat → (Nat → Nat) → Nat → Prop) (k n : Nat) (f : Nat → Nat) (p c : Nat) : List (Nat → Nat) := @ite _ (A p (tc f p) c) (Classical.propDecidable _) (dl A k (n - 1 - p) (p + 1) (fu (tc f p) p c)) []
theorem gg_f {A : Nat → (Nat → Nat) → Nat → Prop} {k n : Nat} {f : Nat → Nat} {p c : Nat} (h : ¬ A p (tc f p) c) : gg A k n f p c = [] := by
  unfold gg; exact if_neg h
theorem gg_t {A : Nat → (Nat → Nat) → Nat → Prop} {k n : Nat} {f : Nat → Nat} {p c : Nat} (h : A p (tc f p) c) : gg A k n f p c = dl A k (n - 1 - p) (p + 1) (tc (fu f p c) (p + 1)) := by
  unfold gg; rw [tc_fu]; exact if_pos h
/-- what is left behind the points below p -/
noncomputable def up_ (A : Nat → (Nat → Nat) → Nat → Prop) (k n : Nat) (f : Nat → Nat) : Nat → List (Nat → Nat)
  | 0 => []
  | p + 1 => ds (gg A k n f p) (k - (f p + 1)) (f p + 1) ++ up_ A k n f p
theorem up_cg {A : Nat → (Nat → Nat) → Nat → Prop} {k n : Nat} {f f' : Nat → Nat} : ∀ p, (∀ i, i < p → f i = f' i) → up_ A k n f p = up_ A k n f' p := by
  intro p
  induction p with
  | zero => intro _; rfl
  | succ p ih =>
    intro h
    have e : gg A k n f p = gg A k n f' p := by
      funext c
      unfold gg
      rw [tc_cg (fun i hi => h i (by omega))]
    show ds (gg A k n f p) (k - (f p + 1)) (f p + 1) ++ up_ A k n f p = ds (gg A k n f' p) (k - (f' p + 1)) (f' p + 1) ++ up_ A k n f' p
    rw [ih (fun i hi => h i (by omega)), e, h p (by omega)]
/-- all that is left at point p whose next colour is c -/
noncomputable def rm_ (A : Nat → (Nat → Nat) → Nat → Prop) (k n : Nat) (f : Nat → Nat) (p c : Nat) : List (Nat → Nat) := ds (gg A k n f p) (k - c) c ++ up_ A k n f p
theorem rm_0 (A : Nat → (Nat → Nat) → Nat → Prop) (k : Nat) {n : Nat} (f : Nat → Nat) (hn : 1 ≤ n) : rm_ A k n f 0 0 = dl A k n 0 (fun _ => 0) := by
  obtain ⟨m, rfl⟩ : ∃ m, n = m + 1 := ⟨n - 1, by omega⟩
  have e : tc f 0 = fun _ => 0 := by funext i; exact tc_g (by omega)
  unfold rm_ gg up_
  rw [List.append_nil, e]
  rfl
theorem rm_skip {A : Nat → (Nat → Nat) → Nat → Prop} {k n : Nat} {f : Nat → Nat} {p c c' : Nat} (h : c ≤ c') (hk : c' ≤ k) (hn : ∀ i, c ≤ i → i < c' → ¬ A p (tc f p) i) : rm_ A k n f p c = rm_ A k n f p c' := by
  unfold rm_
  rw [ds_skip (gg A k n f p) (c' - c) c' (by omega) hk (fun i h1 h2 => gg_f (hn i h1 h2))]
theorem rm_pop {A : Nat → (Nat → Nat) → Nat → Prop} {k n : Nat} {f : Nat → Nat} {p c : Nat} (hn : ∀ i, c ≤ i → i < k → ¬ A (p + 1) (tc f (p + 1)) i) : rm_ A k n f (p + 1) c = rm_ A k n f p (f p + 1) := by
  unfold rm_
  rw [ds_nil _ _ _ (fun i h1 h2 => gg_f (hn i h1 (by omega)))]
  rfl
theorem rm_end {A : Nat → (Nat → Nat) → Nat → Prop} {k n : Nat} {f : Nat → Nat} {c : Nat} (hn : ∀ i, c ≤ i → i < k → ¬ A 0 (tc f 0) i) : rm_ A k n f 0 c = [] := by
  unfold rm_
  rw [ds_nil _ _ _ (fun i h1 h2 => gg_f (hn i h1 (by omega)))]
  rfl
theorem rm_down {A : Nat → (Nat → Nat) → Nat → Prop} {k n : Nat} {f : Nat → Nat} {p c : Nat} (hp : p + 1 < n) (hc : c < k) (hA : A p (tc f p) c) : rm_ A k n f p c = rm_ A k n (fu f p c) (p + 1) 0 := by
  have e : dl A k (n - 1 - p) (p + 1) (tc (fu f p c) (p + 1)) = ds (gg A k n (fu f p c) (p + 1)) (k - 0) 0 := by
    obtain ⟨m, hm⟩ : ∃ m, n - 1 - p = m + 1 := ⟨n - 1 - p - 1, by omega⟩
    rw [hm]
    unfold gg
    rw [show n - 1 - (p + 1) = m by omega]
    rfl
  have e2 : up_ A k n (fu f p c) (p + 1) = ds (gg A k n f p) (k - (c + 1)) (c + 1) ++ up_ A k n f p := by
    show ds (gg A k n (fu f p c) p) (k - (fu f p c p + 1)) (fu f p c p + 1) ++ up_ A k n (fu f p c) p = _
    have h1 : ∀ i, i < p → fu f p c i = f i := fun i hi => fu_n (by omega)
    rw [up_cg p h1, fu_s]
    have e3 : gg A k n (fu f p c) p = gg A k n f p := by
      funext c'
      unfold gg
      rw [tc_cg h1]
    rw [e3]
  unfold rm_
  rw [ds_step _ hc, gg_t hA, e, e2, List.append_assoc]
theorem rm_leaf {A : Nat → (Nat → Nat) → Nat → Prop} {k n : Nat} {f : Nat → Nat} {p c : Nat} (hp : p + 1 = n) (hc : c < k) (hA : A p (tc f p) c) : rm_ A k n f p c = tc (fu f p c) n :: rm_ A k n (fu f p c) p (c + 1) := by
  have h1 : ∀ i, i < p → fu f p c i = f i := fun i hi => fu_n (by omega)
  have e3 : gg A k n (fu f p c) p = gg A k n f p := by
    funext c'
    unfold gg
    rw [tc_cg h1]
  unfold rm_
  rw [ds_step _ hc, gg_t hA, show n - 1 - p = 0 by omega, hp, up_cg p h1, e3]
  rfl
/-- the same allowed colours, the same list -/
theorem dl_cg {A A' : Nat → (Nat → Nat) → Nat → Prop} {k n : Nat} (h : ∀ p f c, p < n → (A p f c ↔ A' p f c)) : ∀ d j f, j + d ≤ n → dl A k d j f = dl A' k d j f := by
  intro d
  induction d with
  | zero => intro j f _; rfl
  | succ d ih =>
    intro j f hj
    refine ds_cg k 0 (fun c _ _ => ?_)
    by_cases a : A j f c
    · rw [if_pos a, if_pos ((h j f c (by omega)).mp a), ih (j + 1) _ (by omega)]
    · rw [if_neg a, if_neg (fun z => a ((h j f c (by omega)).mpr z))]
/-- what lies in the list -/
theorem dl_mem {A : Nat → (Nat → Nat) → Nat → Prop} {k : Nat} (hL : ∀ p f f' c, (∀ q, q < p → f q = f' q) → A p f c → A p f' c) {h : Nat → Nat} : ∀ d j f, h ∈ dl A k d j f ↔ (∀ i, (i < j ∨ j + d ≤ i) → h i = f i) ∧ (∀ i, j ≤ i → i < j + d → h i < k ∧ A i h (h i)) := by
  intro d
  induction d with
  | zero =>
    intro j f
    show h ∈ [f] ↔ _
    rw [List.mem_singleton]
    constructor
    · rintro rfl
      exact ⟨fun i _ => rfl, fun i h1 h2 => by omega⟩
    · rintro ⟨h1, _⟩
      funext i
      exact h1 i (by omega)
  | succ d ih =>
    intro j f
    show h ∈ ds _ k 0 ↔ _
    rw [ds_mem]
    constructor
    · rintro ⟨c, _, hc, hm⟩
      by_cases a : A j f c
      · rw [if_pos a, ih] at hm
        obtain ⟨m1, m2⟩ := hm
        have hj : h j = c := by rw [m1 j (by omega), fu_s]
        have hb : ∀ q, q < j → f q = h q := fun q hq => by rw [m1 q (by omega), fu_n (by omega)]
        refine ⟨fun i hi => ?_, fun i h1 h2 => ?_⟩
        · rw [m1 i (by omega), fu_n (by omega)]
        · by_cases e : i = j
          · subst e
            rw [hj]
            exact ⟨by omega, hL _ f h c hb a⟩
          · exact m2 i (by omega) (by omega)
      · rw [if_neg a] at hm
        cases hm
    · rintro ⟨m1, m2⟩
      have hb : ∀ q, q < j → h q = f q := fun q hq => m1 q (by omega)
      obtain ⟨a1, a2⟩ := m2 j (by omega) (by omega)
      refine ⟨h j, by omega, by omega, ?_⟩
      rw [if_pos (hL _ h f (h j) hb a2), ih]
      refine ⟨fun i hi => ?_, fun i h1 h2 => m2 i (by omega) (by omega)⟩
      by_cases e : i = j
      · subst e; rw [fu_s]
      · rw [fu_n e]; exact m1 i (by omega)
