section
/-! rows pasted out of the kit (kit/rows): stores, numbers, bits -/
theorem pk_us {f : Nat → Int32} {k : Nat} {x : Int32} : upd f k x k = x := if_pos rfl
theorem pk_un {f : Nat → Int32} {k j : Nat} {x : Int32} (h : j ≠ k) : upd f k x j = f j := if_neg h
theorem pk_sub {a b : Nat} (h : b ≤ a) : nI a - nI b = nI (a - b) := by
  obtain ⟨c, rfl⟩ : ∃ c, a = c + b := ⟨a - b, by omega⟩
  rw [← nI_add, Int32.add_sub_cancel, Nat.add_sub_cancel]
theorem pk_m1 (n : Nat) : nI (n + 1) + (-1) = nI n := by
  rw [← nI_1, Int32.add_assoc, show (1 : Int32) + (-1) = 0 from rfl, Int32.add_zero]
theorem pk_mul (a b : Nat) : nI a * nI b = nI (a * b) := (Int32.ofNat_mul a b).symm
theorem pk_ix (x : Int32) {n : Nat} (hn : n < 2 ^ 31) : x < 0 ∨ nI n ≤ x ∨ ∃ j : Nat, j < n ∧ x = nI j := by
  by_cases h : x < 0
  · exact Or.inl h
  · obtain ⟨j, hj, rfl⟩ := nI_of h
    by_cases h2 : j < n
    · exact Or.inr (Or.inr ⟨j, h2, rfl⟩)
    · exact Or.inr (Or.inl (nI_le (by omega) hj))
theorem pk_le {x y : Int32} {A B : Prop} (a b : Nat) (f : a ≤ b → A) (g : b < a → B) (hx : x = nI a := by rfl) (hy : y = nI b := by rfl) (ha : a < 2 ^ 31 := by omega) (hb : b < 2 ^ 31 := by omega) : (x ≤ y → A) ∧ (¬ x ≤ y → B) := by
  subst hx hy
  rw [nI_leI ha hb]
  exact ⟨f, fun z => g (by omega)⟩
theorem pk_lt {x y : Int32} {A B : Prop} (a b : Nat) (f : a < b → A) (g : b ≤ a → B) (hx : x = nI a := by rfl) (hy : y = nI b := by rfl) (ha : a < 2 ^ 31 := by omega) (hb : b < 2 ^ 31 := by omega) : (x < y → A) ∧ (¬ x < y → B) := by
  subst hx hy
  rw [nI_ltI ha hb]
  exact ⟨f, fun z => g (by omega)⟩
theorem pk_eq {x y : Int32} {A B : Prop} (a b : Nat) (f : a = b → A) (g : a ≠ b → B) (hx : x = nI a := by rfl) (hy : y = nI b := by rfl) (ha : a < 2 ^ 31 := by omega) (hb : b < 2 ^ 31 := by omega) : (x = y → A) ∧ (¬ x = y → B) := by
  subst hx hy
  rw [nI_eq ha hb]
  exact ⟨f, g⟩
theorem pk_in {x : Int32} (n N : Nat) (h : n < N) (hx : x = nI n := by rfl) (hN : N < 2 ^ 31 := by omega) : vp_in x N := by
  subst hx
  exact vp_in_nI h hN
theorem pk_cl {x : Int32} (n : Nat) (hx : x = nI n := by rfl) (h : n < 2 ^ 31 := by omega) : x.toNatClampNeg = n := by
  subst hx
  exact nI_clamp h
theorem pk_tn {n : Nat} (h : n < 2 ^ 32) : (nI n).toBitVec.toNat = n := Nat.mod_eq_of_lt h
def bt (x : Int32) (i : Nat) : Bool := x.toBitVec.getLsbD i
theorem b_ext {x y : Int32} (h : ∀ i, i < 32 → bt x i = bt y i) : x = y := Int32.toBitVec_inj.mp (BitVec.eq_of_getLsbD_eq (fun i hi => h i hi))
theorem b_or (x y : Int32) (i : Nat) : bt (x ||| y) i = (bt x i || bt y i) := by unfold bt; rw [Int32.toBitVec_or, BitVec.getLsbD_or]
theorem b_and (x y : Int32) (i : Nat) : bt (x &&& y) i = (bt x i && bt y i) := by unfold bt; rw [Int32.toBitVec_and, BitVec.getLsbD_and]
theorem b_xor (x y : Int32) (i : Nat) : bt (x ^^^ y) i = (bt x i ^^ bt y i) := by unfold bt; rw [Int32.toBitVec_xor, BitVec.getLsbD_xor]
theorem b_big {x : Int32} {i : Nat} (h : 32 ≤ i) : bt x i = false := BitVec.getLsbD_of_ge _ _ h
theorem b_m1 : ∀ i, i < 32 → bt (-1) i = true := by decide +kernel
theorem b_0 (i : Nat) : bt 0 i = false := BitVec.getLsbD_zero
theorem s_l : ∀ n, n < 32 → ((nI n &&& 31).toBitVec.smod 32).toNat = n := by decide +kernel
theorem b_shl (n : Nat) (hn : n < 32) (x : Int32) {i : Nat} (hi : i < 32) : bt (x <<< (nI n &&& 31)) i = (decide (n ≤ i) && bt x (i - n)) := by
  unfold bt
  rw [Int32.toBitVec_shiftLeft]
  show (x.toBitVec <<< ((nI n &&& 31).toBitVec.smod 32).toNat).getLsbD i = _
  rw [s_l n hn, BitVec.getLsbD_shiftLeft]
  rcases Nat.lt_or_ge i n with h | h
  · simp [h, Nat.not_le.mpr h]
  · simp [hi, h, Nat.not_lt.mpr h]
theorem b_sshr (n : Nat) (hn : n < 32) (x : Int32) {i : Nat} (hi : i < 32) : bt (x >>> (nI n &&& 31)) i = if n + i < 32 then bt x (n + i) else bt x 31 := by
  unfold bt
  rw [Int32.toBitVec_shiftRight]
  show (x.toBitVec.sshiftRight ((nI n &&& 31).toBitVec.smod 32).toNat).getLsbD i = _
  rw [s_l n hn, BitVec.getLsbD_sshiftRight, BitVec.msb_eq_getLsbD_last]
  simp [hi]
/-! bits of small sets, our own -/
theorem cb_1 : ∀ i, i < 32 → bt 1 i = decide (i = 0) := by decide +kernel
theorem cb_bit (x : Int32) (q : Nat) (hq : q < 32) : ((x >>> (nI q &&& 31)) &&& 1) = 1 ↔ bt x q = true := by
  have hb : ∀ i, i < 32 → bt ((x >>> (nI q &&& 31)) &&& 1) i = (decide (i = 0) && bt x q) := by
    intro i hi
    rw [b_and, cb_1 i hi, b_sshr q hq x hi]
    by_cases h : i = 0
    · subst h
      simp [hq]
    · simp [h]
  constructor
  · intro h
    have h0 := hb 0 (by omega)
    rw [h, cb_1 0 (by omega)] at h0
    simpa using h0.symm
  · intro h
    apply b_ext
    intro i hi
    rw [hb i hi, cb_1 i hi, h, Bool.and_true]
theorem cb_sh1 : ∀ v, v < 8 → ∀ i, i < 32 → bt ((1 : Int32) <<< (nI v &&& 31)) i = decide (i = v) := by decide +kernel
theorem cb_not (x : Int32) (i : Nat) (hi : i < 32) : bt (x ^^^ (-1)) i = !bt x i := by
  rw [b_xor, b_m1 i hi, Bool.xor_true]
theorem cb_all : ∀ n, n < 9 → ∀ i, i < 32 → bt (((1 : Int32) <<< (nI n &&& 31)) - 1) i = decide (i < n) := by decide +kernel
theorem cb_pow : ∀ n, n < 9 → (1 : Int32) <<< (nI n &&& 31) = nI (2 ^ n) := by decide +kernel
theorem cb_pow1 : ∀ n, n < 9 → ((1 : Int32) <<< (nI n &&& 31)) - 1 = nI (2 ^ n - 1) := by decide +kernel
theorem cb_p2 : ∀ n, n < 9 → 1 ≤ 2 ^ n ∧ 2 ^ n ≤ 256 := by decide +kernel
theorem cb_clr (x : Int32) (v i : Nat) (hv : v < 8) (hi : i < 32) : bt (x &&& (((1 : Int32) <<< (nI v &&& 31)) ^^^ (-1))) i = (bt x i && !decide (i = v)) := by
  rw [b_and, cb_not _ i hi, cb_sh1 v hv i hi]
theorem cb_set (x : Int32) (v i : Nat) (hv : v < 8) (hi : i < 32) : bt (x ||| ((1 : Int32) <<< (nI v &&& 31))) i = (bt x i || decide (i = v)) := by
  rw [b_or, cb_sh1 v hv i hi]
theorem cb_zero (x : Int32) : x = 0 ↔ ∀ i, i < 32 → bt x i = false := by
  constructor
  · intro h i _
    rw [h, b_0]
  · intro h
    apply b_ext
    intro i hi
    rw [h i hi, b_0]
theorem cb_bf {b : Bool} (h : ¬ b = true) : b = false := by cases b <;> simp_all
/-- the two ways of a test of a bit -/
theorem cb_br {x : Int32} {q : Nat} {A B : Prop} (hq : q < 32) (f : bt x q = true → A) (g : ¬ bt x q = true → B) : ((((x >>> (nI q &&& 31)) &&& 1) = 1) → A) ∧ (¬ (((x >>> (nI q &&& 31)) &&& 1) = 1) → B) := by
  rw [cb_bit x q hq]
  exact ⟨f, g⟩
theorem cb_in {j n : Nat} (h : j < n) (hn : n ≤ 8) : vp_in (nI j) 8 := vp_in_nI (by omega) (by omega)
theorem cb_cl {j : Nat} (h : j ≤ 8) : (nI j).toNatClampNeg = j := nI_clamp (by omega)
end
section
/-! colourings as functions; the tree of a walk as lists; our own -/
def fu {α : Type} (f : Nat → α) (j : Nat) (c : α) : Nat → α := fun i => if i = j then c else f i
theorem fu_s {α : Type} {f : Nat → α} {j : Nat} {c : α} : fu f j c j = c := if_pos rfl
theorem fu_n {α : Type} {f : Nat → α} {i j : Nat} {c : α} (h : i ≠ j) : fu f j c i = f i := if_neg h
/-- f below p, and 0 from there on -/
def tc (f : Nat → Nat) (p : Nat) : Nat → Nat := fun i => if i < p then f i else 0
theorem tc_l {f : Nat → Nat} {p i : Nat} (h : i < p) : tc f p i = f i := if_pos h
theorem tc_g {f : Nat → Nat} {p i : Nat} (h : ¬ i < p) : tc f p i = 0 := if_neg h
theorem tc_fu (f : Nat → Nat) (p c : Nat) : tc (fu f p c) (p + 1) = fu (tc f p) p c := by
  funext i
  rcases Nat.lt_trichotomy i p with h | h | h
  · rw [tc_l (by omega), fu_n (by omega), fu_n (by omega), tc_l h]
  · subst h
    rw [tc_l (by omega), fu_s, fu_s]
  · rw [tc_g (by omega), fu_n (by omega), tc_g (by omega)]
theorem tc_cg {f g : Nat → Nat} {p : Nat} (h : ∀ i, i < p → f i = g i) : tc f p = tc g p := by
  funext i
  by_cases hi : i < p
  · rw [tc_l hi, tc_l hi, h i hi]
  · rw [tc_g hi, tc_g hi]
/-- the lists of r colours from c on, one behind another -/
def ds {α : Type} (g : Nat → List α) : Nat → Nat → List α
  | 0, _ => []
  | r + 1, c => g c ++ ds g r (c + 1)
theorem ds_nil {α : Type} (g : Nat → List α) : ∀ r c, (∀ i, c ≤ i → i < c + r → g i = []) → ds g r c = [] := by
  intro r
  induction r with
  | zero => intro c _; rfl
  | succ r ih =>
    intro c h
    show g c ++ ds g r (c + 1) = []
    rw [h c (by omega) (by omega), ih (c + 1) (fun i h1 h2 => h i (by omega) (by omega))]
    rfl
theorem ds_cg {α : Type} {g g' : Nat → List α} : ∀ r c, (∀ i, c ≤ i → i < c + r → g i = g' i) → ds g r c = ds g' r c := by
  intro r
  induction r with
  | zero => intro c _; rfl
  | succ r ih =>
    intro c h
    show g c ++ ds g r (c + 1) = g' c ++ ds g' r (c + 1)
    rw [h c (by omega) (by omega), ih (c + 1) (fun i h1 h2 => h i (by omega) (by omega))]
theorem ds_mem {α : Type} {g : Nat → List α} {x : α} : ∀ r c, x ∈ ds g r c ↔ ∃ i, c ≤ i ∧ i < c + r ∧ x ∈ g i := by
  intro r
  induction r with
  | zero =>
    intro c
    constructor
    · intro h; cases h
    · rintro ⟨i, h1, h2, _⟩; omega
  | succ r ih =>
    intro c
    show x ∈ g c ++ ds g r (c + 1) ↔ _
    rw [List.mem_append, ih (c + 1)]
    constructor
    · rintro (h | ⟨i, h1, h2, h3⟩)
      · exact ⟨c, by omega, by omega, h⟩
      · exact ⟨i, by omega, by omega, h3⟩
    · rintro ⟨i, h1, h2, h3⟩
      by_cases e : i = c
      · subst e; exact Or.inl h3
      · exact Or.inr ⟨i, by omega, by omega, h3⟩
/-- one colour taken off -/
theorem ds_step {α : Type} (g : Nat → List α) {k c : Nat} (h : c < k) : ds g (k - c) c = g c ++ ds g (k - (c + 1)) (c + 1) := by
  obtain ⟨r, hr⟩ : ∃ r, k - c = r + 1 := ⟨k - c - 1, by omega⟩
  rw [hr, show k - (c + 1) = r by omega]
  rfl
theorem ds_skip {α : Type} (g : Nat → List α) {k c : Nat} : ∀ e c', c' = c + e → c' ≤ k → (∀ i, c ≤ i → i < c' → g i = []) → ds g (k - c) c = ds g (k - c') c' := by
  intro e
  induction e with
  | zero => intro c' h _ _; rw [show c' = c by omega]
  | succ e ih =>
    intro c' h hk hn
    rw [ih (c + e) rfl (by omega) (fun i h1 h2 => hn i h1 (by omega)), ds_step g (by omega : c + e < k), hn (c + e) (by omega) (by omega), show c + e + 1 = c' by omega]
    rfl
/-- all the colourings of the points from j on, d of them, behind f, in order -/
noncomputable def dl (A : Nat → (Nat → Nat) → Nat → Prop) (k : Nat) : Nat → Nat → (Nat → Nat) → List (Nat → Nat)
  | 0, _, f => [f]
  | d + 1, j, f => ds (fun c => @ite _ (A j f c) (Classical.propDecidable _) (dl A k d (j + 1) (fu f j c)) []) k 0
/-- those in which point p has colour c -/
noncomputable def gg (A : Nat → (Nat → Nat) → Nat → Prop) (k n : Nat) (f : Nat → Nat) (p c : Nat) : List (Nat → Nat) := @ite _ (A p (tc f p) c) (Classical.propDecidable _) (dl A k (n - 1 - p) (p + 1) (fu (tc f p) p c)) []
theorem gg_f {A : Nat → (Nat → Nat) → Nat → Prop} {k n : Nat} {f : Nat → Nat} {p c : Nat} (h : ¬ A p (tc f p) c) : gg A k n f p c = [] := by
  unfold gg; exact if_neg h
theorem gg_t {A : Nat → (Nat → Nat) → Nat → Prop} {k n : Nat} {f : Nat → Nat} {p c : Nat} (h : A p (tc f p) c) : gg A k n f p c = dl A k (n - 1 - p) (p + 1) (tc (fu f p c) (p + 1)) := by
  unfold gg; rw [tc_fu]; exact if_pos h
/-- what is left behind the points below p -/
noncomputable def up_ (A : Nat → (Nat → Nat) → Nat → Prop) (k n : Nat) (f : Nat → Nat) : Nat → List (Nat → Nat)
  | 0 => []
  | p + 1 => ds (gg A k n f p) (k - (f p + 1)) (f p + 1) ++ up_ A k n f p
theorem up_cg {A : Nat → (Nat → Nat) → Nat → Prop} {k n : Nat} {f f' : Nat → Nat} : ∀ p, (∀ i, i < p → f i = f' i) → up_ A k n f p = up_ A k n f' p := by
  intro p
  induction p with
  | zero => intro _; rfl
  | succ p ih =>
    intro h
    have e : gg A k n f p = gg A k n f' p := by
      funext c
      unfold gg
      rw [tc_cg (fun i hi => h i (by omega))]
    show ds (gg A k n f p) (k - (f p + 1)) (f p + 1) ++ up_ A k n f p = ds (gg A k n f' p) (k - (f' p + 1)) (f' p + 1) ++ up_ A k n f' p
    rw [ih (fun i hi => h i (by omega)), e, h p (by omega)]
/-- all that is left at point p whose next colour is c -/
noncomputable def rm_ (A : Nat → (Nat → Nat) → Nat → Prop) (k n : Nat) (f : Nat → Nat) (p c : Nat) : List (Nat → Nat) := ds (gg A k n f p) (k - c) c ++ up_ A k n f p
theorem rm_0 (A : Nat → (Nat → Nat) → Nat → Prop) (k : Nat) {n : Nat} (f : Nat → Nat) (hn : 1 ≤ n) : rm_ A k n f 0 0 = dl A k n 0 (fun _ => 0) := by
  obtain ⟨m, rfl⟩ : ∃ m, n = m + 1 := ⟨n - 1, by omega⟩
  have e : tc f 0 = fun _ => 0 := by funext i; exact tc_g (by omega)
  unfold rm_ gg up_
  rw [List.append_nil, e]
  rfl
theorem rm_skip {A : Nat → (Nat → Nat) → Nat → Prop} {k n : Nat} {f : Nat → Nat} {p c c' : Nat} (h : c ≤ c') (hk : c' ≤ k) (hn : ∀ i, c ≤ i → i < c' → ¬ A p (tc f p) i) : rm_ A k n f p c = rm_ A k n f p c' := by
  unfold rm_
  rw [ds_skip (gg A k n f p) (c' - c) c' (by omega) hk (fun i h1 h2 => gg_f (hn i h1 h2))]
theorem rm_pop {A : Nat → (Nat → Nat) → Nat → Prop} {k n : Nat} {f : Nat → Nat} {p c : Nat} (hn : ∀ i, c ≤ i → i < k → ¬ A (p + 1) (tc f (p + 1)) i) : rm_ A k n f (p + 1) c = rm_ A k n f p (f p + 1) := by
  unfold rm_
  rw [ds_nil _ _ _ (fun i h1 h2 => gg_f (hn i h1 (by omega)))]
  rfl
theorem rm_end {A : Nat → (Nat → Nat) → Nat → Prop} {k n : Nat} {f : Nat → Nat} {c : Nat} (hn : ∀ i, c ≤ i → i < k → ¬ A 0 (tc f 0) i) : rm_ A k n f 0 c = [] := by
  unfold rm_
  rw [ds_nil _ _ _ (fun i h1 h2 => gg_f (hn i h1 (by omega)))]
  rfl
theorem rm_down {A : Nat → (Nat → Nat) → Nat → Prop} {k n : Nat} {f : Nat → Nat} {p c : Nat} (hp : p + 1 < n) (hc : c < k) (hA : A p (tc f p) c) : rm_ A k n f p c = rm_ A k n (fu f p c) (p + 1) 0 := by
  have e : dl A k (n - 1 - p) (p + 1) (tc (fu f p c) (p + 1)) = ds (gg A k n (fu f p c) (p + 1)) (k - 0) 0 := by
    obtain ⟨m, hm⟩ : ∃ m, n - 1 - p = m + 1 := ⟨n - 1 - p - 1, by omega⟩
    rw [hm]
    unfold gg
    rw [show n - 1 - (p + 1) = m by omega]
    rfl
  have e2 : up_ A k n (fu f p c) (p + 1) = ds (gg A k n f p) (k - (c + 1)) (c + 1) ++ up_ A k n f p := by
    show ds (gg A k n (fu f p c) p) (k - (fu f p c p + 1)) (fu f p c p + 1) ++ up_ A k n (fu f p c) p = _
    have h1 : ∀ i, i < p → fu f p c i = f i := fun i hi => fu_n (by omega)
    rw [up_cg p h1, fu_s]
    have e3 : gg A k n (fu f p c) p = gg A k n f p := by
      funext c'
      unfold gg
      rw [tc_cg h1]
    rw [e3]
  unfold rm_
  rw [ds_step _ hc, gg_t hA, e, e2, List.append_assoc]
theorem rm_leaf {A : Nat → (Nat → Nat) → Nat → Prop} {k n : Nat} {f : Nat → Nat} {p c : Nat} (hp : p + 1 = n) (hc : c < k) (hA : A p (tc f p) c) : rm_ A k n f p c = tc (fu f p c) n :: rm_ A k n (fu f p c) p (c + 1) := by
  have h1 : ∀ i, i < p → fu f p c i = f i := fun i hi => fu_n (by omega)
  have e3 : gg A k n (fu f p c) p = gg A k n f p := by
    funext c'
    unfold gg
    rw [tc_cg h1]
  unfold rm_
  rw [ds_step _ hc, gg_t hA, show n - 1 - p = 0 by omega, hp, up_cg p h1, e3]
  rfl
/-- the same allowed colours, the same list -/
theorem dl_cg {A A' : Nat → (Nat → Nat) → Nat → Prop} {k n : Nat} (h : ∀ p f c, p < n → (A p f c ↔ A' p f c)) : ∀ d j f, j + d ≤ n → dl A k d j f = dl A' k d j f := by
  intro d
  induction d with
  | zero => intro j f _; rfl
  | succ d ih =>
    intro j f hj
    refine ds_cg k 0 (fun c _ _ => ?_)
    by_cases a : A j f c
    · rw [if_pos a, if_pos ((h j f c (by omega)).mp a), ih (j + 1) _ (by omega)]
    · rw [if_neg a, if_neg (fun z => a ((h j f c (by omega)).mpr z))]
/-- what lies in the list -/
theorem dl_mem {A : Nat → (Nat → Nat) → Nat → Prop} {k : Nat} (hL : ∀ p f f' c, (∀ q, q < p → f q = f' q) → A p f c → A p f' c) {h : Nat → Nat} : ∀ d j f, h ∈ dl A k d j f ↔ (∀ i, (i < j ∨ j + d ≤ i) → h i = f i) ∧ (∀ i, j ≤ i → i < j + d → h i < k ∧ A i h (h i)) := by
  intro d
  induction d with
  | zero =>
    intro j f
    show h ∈ [f] ↔ _
    rw [List.mem_singleton]
    constructor
    · rintro rfl
      exact ⟨fun i _ => rfl, fun i h1 h2 => by omega⟩
    · rintro ⟨h1, _⟩
      funext i
      exact h1 i (by omega)
  | succ d ih =>
    intro j f
    show h ∈ ds _ k 0 ↔ _
    rw [ds_mem]
    constructor
    · rintro ⟨c, _, hc, hm⟩
      by_cases a : A j f c
      · rw [if_pos a, ih] at hm
        obtain ⟨m1, m2⟩ := hm
        have hj : h j = c := by rw [m1 j (by omega), fu_s]
        have hb : ∀ q, q < j → f q = h q := fun q hq => by rw [m1 q (by omega), fu_n (by omega)]
        refine ⟨fun i hi => ?_, fun i h1 h2 => ?_⟩
        · rw [m1 i (by omega), fu_n (by omega)]
        · by_cases e : i = j
          · subst e
            rw [hj]
            exact ⟨by omega, hL _ f h c hb a⟩
          · exact m2 i (by omega) (by omega)
      · rw [if_neg a] at hm
        cases hm
    · rintro ⟨m1, m2⟩
      have hb : ∀ q, q < j → h q = f q := fun q hq => m1 q (by omega)
      obtain ⟨a1, a2⟩ := m2 j (by omega) (by omega)
      refine ⟨h j, by omega, by omega, ?_⟩
      rw [if_pos (hL _ h f (h j) hb a2), ih]
      refine ⟨fun i hi => ?_, fun i h1 h2 => m2 i (by omega) (by omega)⟩
      by_cases e : i = j
      · subst e; rw [fu_s]
      · rw [fu_n e]; exact m1 i (by omega)
end
section
/-! sums over colours, exchange of two colours, first colourings, counts; our own -/
def sl (F : Nat → Nat) : Nat → Nat → Nat
  | 0, _ => 0
  | r + 1, c => F c + sl F r (c + 1)
theorem sl_1 {F : Nat → Nat} {r c : Nat} : sl F (r + 1) c = F c + sl F r (c + 1) := rfl
theorem sl_cg {F G : Nat → Nat} : ∀ r c, (∀ i, c ≤ i → i < c + r → F i = G i) → sl F r c = sl G r c := by
  intro r
  induction r with
  | zero => intro c _; rfl
  | succ r ih =>
    intro c h
    show F c + sl F r (c + 1) = G c + sl G r (c + 1)
    rw [h c (by omega) (by omega), ih (c + 1) (fun i h1 h2 => h i (by omega) (by omega))]
theorem sl_k {F : Nat → Nat} (x : Nat) : ∀ r c, (∀ i, c ≤ i → i < c + r → F i = x) → sl F r c = r * x := by
  intro r
  induction r with
  | zero => intro c _; rw [Nat.zero_mul]; rfl
  | succ r ih =>
    intro c h
    show F c + sl F r (c + 1) = _
    rw [h c (by omega) (by omega), ih (c + 1) (fun i h1 h2 => h i (by omega) (by omega)), Nat.succ_mul, Nat.add_comm]
theorem sl_split {F : Nat → Nat} : ∀ a b c, sl F (a + b) c = sl F a c + sl F b (c + a) := by
  intro a
  induction a with
  | zero => intro b c; rw [Nat.zero_add, Nat.add_zero]; exact (Nat.zero_add _).symm
  | succ a ih =>
    intro b c
    rw [show a + 1 + b = (a + b) + 1 by omega]
    show F c + sl F (a + b) (c + 1) = F c + sl F a (c + 1) + _
    rw [ih b (c + 1), show c + 1 + a = c + (a + 1) by omega]
    omega
theorem sl_fu {F : Nat → Nat} {a x : Nat} : ∀ r c, c ≤ a → a < c + r → sl (fu F a x) r c + F a = sl F r c + x := by
  intro r
  induction r with
  | zero => intro c h1 h2; omega
  | succ r ih =>
    intro c h1 h2
    show fu F a x c + sl (fu F a x) r (c + 1) + F a = F c + sl F r (c + 1) + x
    by_cases e : a = c
    · subst e
      rw [fu_s, sl_cg (F := fu F a x) (G := F) r (a + 1) (fun i h3 h4 => fu_n (by omega))]
      omega
    · have := ih (c + 1) (by omega) (by omega)
      rw [fu_n (by omega)]
      omega
theorem sl_mul {F : Nat → Nat} (x : Nat) : ∀ r c, sl (fun i => x * F i) r c = x * sl F r c := by
  intro r
  induction r with
  | zero => intro c; rfl
  | succ r ih =>
    intro c
    show x * F c + sl (fun i => x * F i) r (c + 1) = x * (F c + sl F r (c + 1))
    rw [ih (c + 1), Nat.mul_add]
/-- two colours exchanged -/
def sw (a b : Nat) (c : Nat) : Nat := if c = a then b else if c = b then a else c
theorem sw_a (a b : Nat) : sw a b a = b := if_pos rfl
theorem sw_b (a b : Nat) : sw a b b = a := by
  unfold sw
  by_cases h : b = a
  · rw [if_pos h, h]
  · rw [if_neg h, if_pos rfl]
theorem sw_o {a b c : Nat} (h1 : c ≠ a) (h2 : c ≠ b) : sw a b c = c := by
  unfold sw; rw [if_neg h1, if_neg h2]
theorem sw_sw (a b c : Nat) : sw a b (sw a b c) = c := by
  by_cases h1 : c = a
  · subst h1; rw [sw_a, sw_b]
  · by_cases h2 : c = b
    · subst h2; rw [sw_b, sw_a]
    · rw [sw_o h1 h2, sw_o h1 h2]
theorem sw_inj {a b c d : Nat} (h : sw a b c = sw a b d) : c = d := by
  rw [← sw_sw a b c, h, sw_sw]
theorem sw_lt {a b c k : Nat} (ha : a < k) (hb : b < k) (hc : c < k) : sw a b c < k := by
  by_cases h1 : c = a
  · subst h1; rw [sw_a]; exact hb
  · by_cases h2 : c = b
    · subst h2; rw [sw_b]; exact ha
    · rw [sw_o h1 h2]; exact hc
theorem sl_sw {F : Nat → Nat} {a b k : Nat} (ha : a < k) (hb : b < k) : sl (fun c => F (sw a b c)) k 0 = sl F k 0 := by
  by_cases e : a = b
  · subst e
    refine sl_cg k 0 (fun i _ _ => ?_)
    by_cases h : i = a
    · subst h; rw [sw_a]
    · rw [sw_o h h]
  · have e1 := sl_fu (F := F) (a := a) (x := F b) k 0 (by omega) (by omega)
    have e2 := sl_fu (F := fu F a (F b)) (a := b) (x := F a) k 0 (by omega) (by omega)
    rw [fu_n (show b ≠ a by omega)] at e2
    have e3 : sl (fun c => F (sw a b c)) k 0 = sl (fu (fu F a (F b)) b (F a)) k 0 := by
      refine sl_cg k 0 (fun i _ _ => ?_)
      by_cases h1 : i = b
      · subst h1; rw [sw_b, fu_s]
      · by_cases h2 : i = a
        · subst h2; rw [sw_a, fu_n h1, fu_s]
        · rw [sw_o h2 h1, fu_n h1, fu_n h2]
    omega
theorem ds_len {α : Type} {g : Nat → List α} : ∀ r c, (ds g r c).length = sl (fun i => (g i).length) r c := by
  intro r
  induction r with
  | zero => intro c; rfl
  | succ r ih =>
    intro c
    show (g c ++ ds g r (c + 1)).length = (g c).length + sl (fun i => (g i).length) r (c + 1)
    rw [List.length_append, ih]
/-- p may take c beside the points before it -/
def AF (T : Nat → Nat → Prop) (p : Nat) (f : Nat → Nat) (c : Nat) : Prop := ∀ q, q < p → T p q → f q ≠ c
/-- the least colour above all those before p -/
def fU (f : Nat → Nat) : Nat → Nat
  | 0 => 0
  | q + 1 => if fU f q ≤ f q then f q + 1 else fU f q
def AX (T : Nat → Nat → Prop) (p : Nat) (f : Nat → Nat) (c : Nat) : Prop := c ≤ fU f p ∧ AF T p f c
theorem fU_cg {f g : Nat → Nat} : ∀ p, (∀ q, q < p → f q = g q) → fU f p = fU g p := by
  intro p
  induction p with
  | zero => intro _; rfl
  | succ p ih =>
    intro h
    show (if fU f p ≤ f p then f p + 1 else fU f p) = (if fU g p ≤ g p then g p + 1 else fU g p)
    rw [ih (fun q hq => h q (by omega)), h p (by omega)]
theorem fU_gt {f : Nat → Nat} : ∀ p q, q < p → f q < fU f p := by
  intro p
  induction p with
  | zero => intro q hq; omega
  | succ p ih =>
    intro q hq
    show f q < (if fU f p ≤ f p then f p + 1 else fU f p)
    by_cases e : q = p
    · subst e
      split <;> omega
    · have := ih q (by omega)
      split <;> omega
theorem fU_le {f : Nat → Nat} : ∀ p, (∀ q, q < p → f q ≤ q) → fU f p ≤ p := by
  intro p
  induction p with
  | zero => intro _; exact Nat.le_refl 0
  | succ p ih =>
    intro h
    show (if fU f p ≤ f p then f p + 1 else fU f p) ≤ p + 1
    have := ih (fun q hq => h q (by omega))
    have := h p (by omega)
    split <;> omega
theorem fU_old {f : Nat → Nat} {p c : Nat} (h : c < fU f p) : fU (fu f p c) (p + 1) = fU f p := by
  show (if fU (fu f p c) p ≤ fu f p c p then fu f p c p + 1 else fU (fu f p c) p) = _
  rw [fU_cg (f := fu f p c) (g := f) p (fun q hq => fu_n (show q ≠ p by omega)), fu_s, if_neg (by omega)]
theorem fU_new {f : Nat → Nat} {p : Nat} : fU (fu f p (fU f p)) (p + 1) = fU f p + 1 := by
  show (if fU (fu f p (fU f p)) p ≤ fu f p (fU f p) p then fu f p (fU f p) p + 1 else fU (fu f p (fU f p)) p) = _
  rw [fU_cg (f := fu f p (fU f p)) (g := f) p (fun q hq => fu_n (show q ≠ p by omega)), fu_s, if_pos (Nat.le_refl _)]
theorem AF_loc (T : Nat → Nat → Prop) : ∀ p f f' c, (∀ q, q < p → f q = f' q) → AF T p f c → AF T p f' c := by
  intro p f f' c h a q hq t
  rw [← h q hq]
  exact a q hq t
/-- an exchange of two colours keeps the number of colourings -/
theorem dl_sw (T : Nat → Nat → Prop) {k a b : Nat} (ha : a < k) (hb : b < k) : ∀ d j f f', (∀ i, i < j → f' i = sw a b (f i)) → (dl (AF T) k d j f').length = (dl (AF T) k d j f).length := by
  intro d
  induction d with
  | zero => intro j f f' _; rfl
  | succ d ih =>
    intro j f f' h
    show (ds _ k 0).length = (ds _ k 0).length
    rw [ds_len, ds_len]
    refine Eq.trans ?_ (sl_sw ha hb)
    refine sl_cg k 0 (fun c _ _ => ?_)
    have hA : AF T j f' c ↔ AF T j f (sw a b c) := by
      constructor
      · intro z q hq t e
        apply z q hq t
        rw [h q hq, e, sw_sw]
      · intro z q hq t e
        apply z q hq t
        rw [← e, h q hq, sw_sw]
    by_cases z : AF T j f' c
    · rw [if_pos z, if_pos (hA.mp z)]
      refine ih (j + 1) _ _ (fun i hi => ?_)
      by_cases e : i = j
      · subst e; rw [fu_s, fu_s, sw_sw]
      · rw [fu_n e, fu_n e, h i (by omega)]
    · rw [if_neg z, if_neg (fun y => z (hA.mpr y))]
/-- a colour that is not used yet is as good as the least such -/
theorem dl_new (T : Nat → Nat → Prop) {k d j c : Nat} {f : Nat → Nat} (h : fU f j ≤ c) (hc : c < k) : (dl (AF T) k d (j + 1) (fu f j c)).length = (dl (AF T) k d (j + 1) (fu f j (fU f j))).length := by
  refine dl_sw T (a := fU f j) (b := c) (by omega) hc d (j + 1) _ _ (fun i hi => ?_)
  by_cases e : i = j
  · subst e; rw [fu_s, fu_s, sw_a]
  · have := fU_gt (f := f) j i (by omega)
    rw [fu_n e, fu_n e, sw_o (by omega) (by omega)]
theorem AF_new (T : Nat → Nat → Prop) {j c : Nat} {f : Nat → Nat} (h : fU f j ≤ c) : AF T j f c := by
  intro q hq _ e
  have := fU_gt (f := f) j q hq
  omega
theorem hd_nil {α : Type} {l : List α} : l.head? = none ↔ l = [] := by cases l <;> simp
theorem hd_ds {α : Type} {gX gF : Nat → List α} {m k : Nat} (h1 : ∀ c, c ≤ m → c < k → (gX c).head? = (gF c).head?) (h2 : ∀ c, m < c → gX c = []) (h3 : ∀ c, m < c → c < k → gF m = [] → gF c = []) : ∀ r c, c + r = k → c ≤ m → (ds gX r c).head? = (ds gF r c).head? := by
  intro r
  induction r with
  | zero => intro c _ _; rfl
  | succ r ih =>
    intro c hc hm
    have e := h1 c hm (by omega)
    show (gX c ++ ds gX r (c + 1)).head? = (gF c ++ ds gF r (c + 1)).head?
    cases hx : gX c with
    | cons x t =>
      rw [hx] at e
      cases hf : gF c with
      | cons y s => rw [hf] at e; exact e
      | nil => rw [hf] at e; simp at e
    | nil =>
      rw [hx] at e
      have hf : gF c = [] := hd_nil.mp e.symm
      rw [hf]
      show (ds gX r (c + 1)).head? = (ds gF r (c + 1)).head?
      by_cases z : c + 1 ≤ m
      · exact ih (c + 1) (by omega) z
      · have hcm : c = m := by omega
        subst hcm
        rw [ds_nil gX r (c + 1) (fun i h4 _ => h2 i (by omega)), ds_nil gF r (c + 1) (fun i h4 h5 => h3 i (by omega) (by omega) hf)]
/-- the first colouring of all is the first of those in order of first use -/
theorem dl_hd (T : Nat → Nat → Prop) (k : Nat) : ∀ d j f, (dl (AX T) k d j f).head? = (dl (AF T) k d j f).head? := by
  intro d
  induction d with
  | zero => intro j f; rfl
  | succ d ih =>
    intro j f
    refine hd_ds (m := fU f j) (k := k) (fun c hc hk => ?_) (fun c hc => ?_) (fun c hc hk h => ?_) k 0 (by omega) (by omega)
    · by_cases a : AF T j f c
      · rw [if_pos a, if_pos (show AX T j f c from ⟨hc, a⟩)]
        exact ih (j + 1) _
      · rw [if_neg a, if_neg (fun z : AX T j f c => a z.2)]
    · rw [if_neg (fun z : AX T j f c => by have := z.1; omega)]
    · rw [if_pos (AF_new T (Nat.le_refl _))] at h
      rw [if_pos (AF_new T (by omega))]
      have := dl_new T (d := d) (show fU f j ≤ c by omega) hk
      rw [h] at this
      exact List.length_eq_zero_iff.mp this
def fac : Nat → Nat
  | 0 => 1
  | n + 1 => (n + 1) * fac n
/-- n points with links T have a colouring with colours below k -/
def Col (T : Nat → Nat → Prop) (n k : Nat) : Prop := ∃ f : Nat → Nat, ∀ p, p < n → f p < k ∧ AF T p f (f p)
theorem dl_col (T : Nat → Nat → Prop) (n k : Nat) : dl (AF T) k n 0 (fun _ => 0) ≠ [] ↔ Col T n k := by
  constructor
  · intro h
    obtain ⟨f, hf⟩ := List.exists_mem_of_ne_nil _ h
    rw [dl_mem (AF_loc T)] at hf
    exact ⟨f, fun p hp => hf.2 p (by omega) (by omega)⟩
  · rintro ⟨f, hf⟩ e
    have : tc f n ∈ dl (AF T) k n 0 (fun _ => 0) := by
      rw [dl_mem (AF_loc T)]
      refine ⟨fun i hi => tc_g (by omega), fun i _ hi => ?_⟩
      rw [tc_l (by omega)]
      exact ⟨(hf i (by omega)).1, AF_loc T i f _ _ (fun q hq => (tc_l (by omega)).symm) (hf i (by omega)).2⟩
    rw [e] at this
    cases this
theorem dx_col (T : Nat → Nat → Prop) (n k : Nat) : dl (AX T) k n 0 (fun _ => 0) ≠ [] ↔ Col T n k := by
  rw [← dl_col]
  exact not_congr (by rw [← hd_nil, ← hd_nil, dl_hd])
/-- each colouring in order of first use stands for (k - used)! of them, if none has fewer than k colours -/
theorem dl_cnt (T : Nat → Nat → Prop) (n k : Nat) (hk : 1 ≤ k) (hc : ¬ Col T n (k - 1)) : ∀ d j f, j + d = n → fU f j ≤ k → (∀ i, i < j → AF T i f (f i)) → (dl (AF T) k d j f).length = fac (k - fU f j) * (dl (AX T) k d j f).length := by
  intro d
  induction d with
  | zero =>
    intro j f hj hU hp
    have e : fU f j = k := by
      apply Classical.byContradiction
      intro z
      apply hc
      refine ⟨f, fun p hpn => ⟨?_, hp p (by omega)⟩⟩
      have := fU_gt (f := f) j p (by omega)
      omega
    rw [e, Nat.sub_self]
    rfl
  | succ d ih =>
    intro j f hj hU hp
    have hpre : ∀ c, AF T j f c → ∀ i, i < j + 1 → AF T i (fu f j c) (fu f j c i) := by
      intro c a i hi
      by_cases e : i = j
      · subst e
        rw [fu_s]
        exact AF_loc T i f _ c (fun q hq => (fu_n (by omega)).symm) a
      · rw [fu_n e]
        exact AF_loc T i f _ _ (fun q hq => (fu_n (by omega)).symm) (hp i (by omega))
    show (ds _ k 0).length = _ * (ds _ k 0).length
    rw [ds_len, ds_len]
    obtain ⟨r, hr⟩ : ∃ r, k = fU f j + r := ⟨k - fU f j, by omega⟩
    have hr2 : k - fU f j = r := by omega
    rw [hr2]
    have e1 : ∀ F : Nat → Nat, sl F k 0 = sl F (fU f j) 0 + sl F r (fU f j) := by
      intro F
      have := sl_split (F := F) (fU f j) r 0
      rw [← hr, Nat.zero_add] at this
      exact this
    rw [e1, e1, Nat.mul_add]
    congr 1
    · rw [← sl_mul]
      refine sl_cg _ _ (fun c _ hlt => ?_)
      rw [Nat.zero_add] at hlt
      by_cases a : AF T j f c
      · rw [if_pos a, if_pos (show AX T j f c from ⟨by omega, a⟩), ih (j + 1) _ (by omega) (by rw [fU_old hlt]; exact hU) (hpre c a), fU_old hlt, hr2]
      · rw [if_neg a, if_neg (fun z : AX T j f c => a z.2)]
        rfl
    · cases r with
      | zero => rfl
      | succ r =>
        have a0 : AF T j f (fU f j) := AF_new T (Nat.le_refl _)
        have hh := ih (j + 1) (fu f j (fU f j)) (by omega) (by rw [fU_new]; omega) (hpre _ a0)
        rw [fU_new, show k - (fU f j + 1) = r by omega] at hh
        rw [sl_k (dl (AF T) k d (j + 1) (fu f j (fU f j))).length (r + 1) (fU f j) (fun c h1 h2 => by rw [if_pos (AF_new T h1)]; exact dl_new T h1 (by omega))]
        rw [sl_1, if_pos (show AX T j f (fU f j) from ⟨Nat.le_refl _, a0⟩), sl_k 0 r (fU f j + 1) (fun c h1 h2 => by rw [if_neg (fun z : AX T j f c => by have := z.1; omega)]; rfl), hh, Nat.mul_zero]
        show _ = (r + 1) * fac r * _
        rw [Nat.mul_assoc]
        rfl
/-- ways = k! times the count -/
theorem dl_ways (T : Nat → Nat → Prop) {n k : Nat} (hk : 1 ≤ k) (hc : ¬ Col T n (k - 1)) : (dl (AF T) k n 0 (fun _ => 0)).length = fac k * (dl (AX T) k n 0 (fun _ => 0)).length := by
  have := dl_cnt T n k hk hc n 0 (fun _ => 0) (by omega) (Nat.zero_le _) (fun i hi => by omega)
  exact this
/-- p numbers leave one of 0 .. p out -/
theorem pg_h : ∀ (p : Nat) (f : Nat → Nat), ∃ c, c ≤ p ∧ ∀ q, q < p → f q ≠ c := by
  intro p
  induction p with
  | zero => intro f; exact ⟨0, Nat.le_refl 0, fun q hq => by omega⟩
  | succ p ih =>
    intro f
    obtain ⟨c, hc, h⟩ := ih (fun q => if f q = p + 1 then f p else f q)
    by_cases e : f p = c
    · refine ⟨p + 1, Nat.le_refl _, fun q hq z => ?_⟩
      by_cases w : q = p
      · subst w; omega
      · have := h q (by omega)
        rw [if_pos z] at this
        exact this e
    · refine ⟨c, by omega, fun q hq z => ?_⟩
      by_cases w : q = p
      · subst w; exact e z
      · have := h q (by omega)
        rw [if_neg (by omega)] at this
        exact this z
theorem Col_n (T : Nat → Nat → Prop) (n : Nat) : Col T n n := ⟨fun i => i, fun p hp => ⟨hp, fun q hq _ e => by have e2 : q = p := e; omega⟩⟩
theorem Col_mono {T : Nat → Nat → Prop} {n k k' : Nat} (h : k ≤ k') (c : Col T n k) : Col T n k' := by
  obtain ⟨f, hf⟩ := c
  exact ⟨f, fun p hp => ⟨Nat.lt_of_lt_of_le (hf p hp).1 h, (hf p hp).2⟩⟩
/-- x is the least number of colours, from 1 on, for which C holds -/
def Chi (C : Nat → Prop) (x : Nat) : Prop := 1 ≤ x ∧ C x ∧ ∀ j, 1 ≤ j → j < x → ¬ C j
theorem Chi_u {C D : Nat → Prop} {x y : Nat} (h : ∀ j, 1 ≤ j → (C j ↔ D j)) (a : Chi C x) (b : Chi D y) : x = y := by
  obtain ⟨a1, a2, a3⟩ := a
  obtain ⟨b1, b2, b3⟩ := b
  rcases Nat.lt_trichotomy x y with z | z | z
  · exact absurd ((h x a1).mp a2) (b3 x a1 z)
  · exact z
  · exact absurd ((h y b1).mpr b2) (a3 y b1 z)
theorem Chi_e {C : Nat → Prop} : ∀ n, 1 ≤ n → C n → ∃ x, x ≤ n ∧ Chi C x := by
  intro n
  induction n using Nat.strongRecOn with
  | ind n ih =>
    intro h1 hC
    by_cases z : ∃ j, 1 ≤ j ∧ j < n ∧ C j
    · obtain ⟨j, j1, j2, j3⟩ := z
      obtain ⟨x, x1, x2⟩ := ih j j2 j1 j3
      exact ⟨x, by omega, x2⟩
    · exact ⟨n, Nat.le_refl n, h1, hC, fun j a b c => z ⟨j, a, b, c⟩⟩
end
section
/-! a graph that needs k colours has at most k! * k^(n-k) colourings with k; our own -/
theorem sm_cg {F G : Nat → Nat} : ∀ l : List Nat, (∀ c, c ∈ l → F c = G c) → (l.map F).sum = (l.map G).sum := by
  intro l
  induction l with
  | nil => intro _; rfl
  | cons x l ih =>
    intro h
    rw [List.map_cons, List.map_cons, List.sum_cons, List.sum_cons, h x (List.mem_cons_self), ih (fun c hc => h c (List.mem_cons_of_mem _ hc))]
theorem sm_le {F G : Nat → Nat} : ∀ l : List Nat, (∀ c, c ∈ l → F c ≤ G c) → (l.map F).sum ≤ (l.map G).sum := by
  intro l
  induction l with
  | nil => intro _; exact Nat.le_refl _
  | cons x l ih =>
    intro h
    rw [List.map_cons, List.map_cons, List.sum_cons, List.sum_cons]
    exact Nat.add_le_add (h x (List.mem_cons_self)) (ih (fun c hc => h c (List.mem_cons_of_mem _ hc)))
theorem sm_add {F G : Nat → Nat} : ∀ l : List Nat, (l.map (fun c => F c + G c)).sum = (l.map F).sum + (l.map G).sum := by
  intro l
  induction l with
  | nil => rfl
  | cons x l ih =>
    rw [List.map_cons, List.map_cons, List.map_cons, List.sum_cons, List.sum_cons, List.sum_cons, ih]
    omega
theorem sm_mul {F : Nat → Nat} (x : Nat) : ∀ l : List Nat, (l.map (fun c => F c * x)).sum = (l.map F).sum * x := by
  intro l
  induction l with
  | nil => exact (Nat.zero_mul x).symm
  | cons y l ih =>
    rw [List.map_cons, List.map_cons, List.sum_cons, List.sum_cons, ih, Nat.add_mul]
theorem sm_k (x : Nat) : ∀ l : List Nat, (l.map (fun _ => x)).sum = l.length * x := by
  intro l
  induction l with
  | nil => exact (Nat.zero_mul x).symm
  | cons y l ih =>
    rw [List.map_cons, List.sum_cons, ih, List.length_cons, Nat.succ_mul, Nat.add_comm]
theorem sm_range {F : Nat → Nat} : ∀ k, ((List.range k).map F).sum = sl F k 0 := by
  intro k
  induction k with
  | zero => rfl
  | succ k ih =>
    rw [List.range_succ, List.map_append, List.sum_append, ih, sl_split k 1 0, Nat.zero_add]
    rfl
/-- the sum of W over all ways to give the points from j on, d of them, a number out of their lists -/
def ts (R : Nat → List Nat) : Nat → Nat → ((Nat → Nat) → Nat) → (Nat → Nat) → Nat
  | 0, _, W, f => W f
  | d + 1, j, W, f => ((R j).map (fun c => ts R d (j + 1) W (fu f j c))).sum
/-- how many ways there are -/
def pl (R : Nat → List Nat) : Nat → Nat → Nat
  | 0, _ => 1
  | d + 1, j => (R j).length * pl R d (j + 1)
theorem ts_cg {R R' : Nat → List Nat} {W : (Nat → Nat) → Nat} : ∀ d j f, (∀ i, j ≤ i → i < j + d → R i = R' i) → ts R d j W f = ts R' d j W f := by
  intro d
  induction d with
  | zero => intro j f _; rfl
  | succ d ih =>
    intro j f h
    show ((R j).map (fun c => ts R d (j + 1) W (fu f j c))).sum = ((R' j).map (fun c => ts R' d (j + 1) W (fu f j c))).sum
    rw [h j (by omega) (by omega)]
    exact sm_cg _ (fun c _ => ih (j + 1) _ (fun i h1 h2 => h i (by omega) (by omega)))
theorem pl_cg {R R' : Nat → List Nat} : ∀ d j, (∀ i, j ≤ i → i < j + d → R i = R' i) → pl R d j = pl R' d j := by
  intro d
  induction d with
  | zero => intro j _; rfl
  | succ d ih =>
    intro j h
    show (R j).length * pl R d (j + 1) = (R' j).length * pl R' d (j + 1)
    rw [h j (by omega) (by omega), ih (j + 1) (fun i h1 h2 => h i (by omega) (by omega))]
theorem ts_le {R : Nat → List Nat} {W W' : (Nat → Nat) → Nat} : ∀ d j f, (∀ h : Nat → Nat, (∀ i, j ≤ i → i < j + d → h i ∈ R i) → (∀ i, i < j → h i = f i) → W h ≤ W' h) → ts R d j W f ≤ ts R d j W' f := by
  intro d
  induction d with
  | zero => intro j f h; exact h f (fun i h1 h2 => by omega) (fun i _ => rfl)
  | succ d ih =>
    intro j f h
    refine sm_le _ (fun c hc => ih (j + 1) _ (fun g h1 h2 => h g (fun i h3 h4 => ?_) (fun i hi => ?_)))
    · by_cases e : i = j
      · subst e
        rw [h2 i (by omega), fu_s]
        exact hc
      · exact h1 i (by omega) (by omega)
    · rw [h2 i (by omega), fu_n (by omega)]
theorem ts_0 {R : Nat → List Nat} {W : (Nat → Nat) → Nat} (d j : Nat) (f : Nat → Nat) (h : ∀ g : Nat → Nat, (∀ i, j ≤ i → i < j + d → g i ∈ R i) → W g = 0) : ts R d j W f = 0 := by
  have e : ∀ d j f, ts R d j (fun _ => 0) f = 0 := by
    intro d
    induction d with
    | zero => intro j f; rfl
    | succ d ih =>
      intro j f
      show ((R j).map (fun c => ts R d (j + 1) (fun _ => 0) (fu f j c))).sum = 0
      rw [sm_cg _ (fun c _ => ih (j + 1) (fu f j c)), sm_k, Nat.mul_zero]
  have := ts_le (R := R) (W := W) (W' := fun _ => 0) d j f (fun g h1 _ => by rw [h g h1]; exact Nat.le_refl 0)
  rw [e] at this
  omega
theorem ts_pl {R : Nat → List Nat} {W : (Nat → Nat) → Nat} (hW : ∀ h, W h ≤ 1) : ∀ d j f, ts R d j W f ≤ pl R d j := by
  intro d
  induction d with
  | zero => intro j f; exact hW f
  | succ d ih =>
    intro j f
    show ((R j).map (fun c => ts R d (j + 1) W (fu f j c))).sum ≤ (R j).length * pl R d (j + 1)
    rw [← sm_k]
    exact sm_le _ (fun c _ => ih (j + 1) _)
theorem ts_split {R : Nat → List Nat} {W : (Nat → Nat) → Nat} {i : Nat} {l1 l2 : List Nat} (hi : R i = l1 ++ l2) : ∀ d j f, j ≤ i → i < j + d → ts R d j W f = ts (fu R i l1) d j W f + ts (fu R i l2) d j W f := by
  intro d
  induction d with
  | zero => intro j f h1 h2; omega
  | succ d ih =>
    intro j f h1 h2
    show ((R j).map (fun c => ts R d (j + 1) W (fu f j c))).sum = ((fu R i l1 j).map (fun c => ts (fu R i l1) d (j + 1) W (fu f j c))).sum + ((fu R i l2 j).map (fun c => ts (fu R i l2) d (j + 1) W (fu f j c))).sum
    by_cases e : i = j
    · subst e
      rw [fu_s, fu_s, hi, List.map_append, List.sum_append]
      congr 1
      · exact sm_cg _ (fun c _ => ts_cg d (i + 1) _ (fun a h3 h4 => (fu_n (by omega)).symm))
      · exact sm_cg _ (fun c _ => ts_cg d (i + 1) _ (fun a h3 h4 => (fu_n (by omega)).symm))
    · rw [fu_n (show j ≠ i by omega), fu_n (show j ≠ i by omega), ← sm_add]
      exact sm_cg _ (fun c _ => ih (j + 1) _ (by omega) (by omega))
theorem pl_split {R : Nat → List Nat} {i : Nat} {l1 l2 : List Nat} (hi : R i = l1 ++ l2) : ∀ d j, j ≤ i → i < j + d → pl R d j = pl (fu R i l1) d j + pl (fu R i l2) d j := by
  intro d
  induction d with
  | zero => intro j h1 h2; omega
  | succ d ih =>
    intro j h1 h2
    show (R j).length * pl R d (j + 1) = (fu R i l1 j).length * pl (fu R i l1) d (j + 1) + (fu R i l2 j).length * pl (fu R i l2) d (j + 1)
    by_cases e : i = j
    · subst e
      rw [fu_s, fu_s, hi, List.length_append, Nat.add_mul, pl_cg (R := fu R i l1) (R' := R) d (i + 1) (fun a h3 h4 => fu_n (by omega)), pl_cg (R := fu R i l2) (R' := R) d (i + 1) (fun a h3 h4 => fu_n (by omega))]
    · rw [fu_n (show j ≠ i by omega), fu_n (show j ≠ i by omega), ih (j + 1) (by omega) (by omega), Nat.mul_add]
theorem pl_fu {R : Nat → List Nat} {i : Nat} {l : List Nat} : ∀ d j, j ≤ i → i < j + d → pl (fu R i l) d j * (R i).length = pl R d j * l.length := by
  intro d
  induction d with
  | zero => intro j h1 h2; omega
  | succ d ih =>
    intro j h1 h2
    show (fu R i l j).length * pl (fu R i l) d (j + 1) * (R i).length = (R j).length * pl R d (j + 1) * l.length
    by_cases e : i = j
    · subst e
      rw [fu_s, pl_cg (R := fu R i l) (R' := R) d (i + 1) (fun a h3 h4 => fu_n (by omega))]
      rw [Nat.mul_comm l.length, Nat.mul_assoc, Nat.mul_comm l.length, ← Nat.mul_assoc, Nat.mul_comm (pl R d (i + 1))]
    · rw [fu_n (show j ≠ i by omega), Nat.mul_assoc, ih (j + 1) (by omega) (by omega), Nat.mul_assoc]
theorem pl_k {k : Nat} : ∀ d j, pl (fun _ => List.range k) d j = k ^ d := by
  intro d
  induction d with
  | zero => intro j; rfl
  | succ d ih =>
    intro j
    show (List.range k).length * pl (fun _ => List.range k) d (j + 1) = _
    rw [ih, List.length_range, Nat.pow_succ, Nat.mul_comm]
theorem fu_fu {α : Type} (f : Nat → α) (i : Nat) (a b : α) : fu (fu f i a) i b = fu f i b := by
  funext j
  by_cases e : j = i
  · subst e; rw [fu_s, fu_s]
  · rw [fu_n e, fu_n e, fu_n e]
theorem fu_id {α : Type} (f : Nat → α) (i : Nat) : fu f i (f i) = f := by
  funext j
  by_cases e : j = i
  · subst e; rw [fu_s]
  · rw [fu_n e]
/-- one point's number fixed, summed over its list -/
theorem ts_fix {W : (Nat → Nat) → Nat} {i n : Nat} (hi : i < n) (f : Nat → Nat) : ∀ (l : List Nat) (R : Nat → List Nat), R i = l → ts R n 0 W f = (l.map (fun c => ts (fu R i [c]) n 0 W f)).sum := by
  intro l
  induction l with
  | nil =>
    intro R h
    refine ts_0 n 0 f (fun g hg => ?_)
    have := hg i (by omega) (by omega)
    rw [h] at this
    cases this
  | cons x l ih =>
    intro R h
    rw [ts_split (l1 := [x]) (l2 := l) h n 0 f (by omega) (by omega), ih (fu R i l) fu_s, List.map_cons, List.sum_cons]
    congr 1
    exact sm_cg _ (fun c _ => by rw [fu_fu])
theorem ts_sw {R R' : Nat → List Nat} {W : (Nat → Nat) → Nat} {a b n : Nat} (hR : ∀ i (F : Nat → Nat), ((R' i).map F).sum = ((R i).map (fun c => F (sw a b c))).sum) (hW : ∀ h h' : Nat → Nat, (∀ i, i < n → h' i = sw a b (h i)) → W h' = W h) : ∀ d j f f', j + d = n → (∀ i, i < j → f' i = sw a b (f i)) → ts R' d j W f' = ts R d j W f := by
  intro d
  induction d with
  | zero => intro j f f' hj h; exact hW f f' (fun i hi => h i (by omega))
  | succ d ih =>
    intro j f f' hj h
    show ((R' j).map (fun c => ts R' d (j + 1) W (fu f' j c))).sum = ((R j).map (fun c => ts R d (j + 1) W (fu f j c))).sum
    rw [hR]
    refine sm_cg _ (fun c _ => ih (j + 1) _ _ (by omega) (fun i hi => ?_))
    by_cases e : i = j
    · subst e; rw [fu_s, fu_s]
    · rw [fu_n e, fu_n e, h i (by omega)]
/-- proper on the points of U -/
def Pr (T : Nat → Nat → Prop) (n : Nat) (U : Nat → Prop) (f : Nat → Nat) : Prop := ∀ p q, p < n → q < p → U p → U q → T p q → f q ≠ f p
def CU (T : Nat → Nat → Prop) (n : Nat) (U : Nat → Prop) (k : Nat) : Prop := ∃ g : Nat → Nat, (∀ i, i < n → U i → g i < k) ∧ Pr T n U g
noncomputable def wI (P : Prop) : Nat := @ite _ P (Classical.propDecidable _) 1 0
theorem wI_t {P : Prop} (h : P) : wI P = 1 := if_pos h
theorem wI_f {P : Prop} (h : ¬ P) : wI P = 0 := if_neg h
theorem wI_le {P Q : Prop} (h : P → Q) : wI P ≤ wI Q := by
  by_cases p : P
  · rw [wI_t p, wI_t (h p)]; exact Nat.le_refl 1
  · rw [wI_f p]; exact Nat.zero_le _
theorem wI_1 (P : Prop) : wI P ≤ 1 := by
  by_cases p : P
  · rw [wI_t p]; exact Nat.le_refl 1
  · rw [wI_f p]; exact Nat.zero_le _
noncomputable def NU (T : Nat → Nat → Prop) (n k : Nat) (U : Nat → Prop) : Nat := ts (fun _ => List.range k) n 0 (fun f => wI (Pr T n U f)) (fun _ => 0)
theorem Pr_sub {T : Nat → Nat → Prop} {n : Nat} {U V : Nat → Prop} {f : Nat → Nat} (h : ∀ i, V i → U i) (p : Pr T n U f) : Pr T n V f := fun a b h1 h2 h3 h4 h5 => p a b h1 h2 (h a h3) (h b h4) h5
/-- every point either k1 or below k1: set against the colourings below k1 of the others -/
theorem ts_low {T : Nat → Nat → Prop} {n k1 : Nat} {U : Nat → Prop} {R : Nat → List Nat} (hR : ∀ i, i < n → R i = [k1] ∨ R i = List.range k1) : ∀ d j f g, j + d = n → (∀ i, i < j → ¬ R i = [k1] → g i = f i) → ts R d j (fun f => wI (Pr T n U f)) f * k1 ^ d ≤ ts (fun _ => List.range k1) d j (fun f => wI (Pr T n (fun i => U i ∧ ¬ R i = [k1]) f)) g * pl R d j := by
  intro d
  induction d with
  | zero =>
    intro j f g hj h
    show wI _ * 1 ≤ wI _ * 1
    rw [Nat.mul_one, Nat.mul_one]
    refine wI_le (fun p a b h1 h2 h3 h4 h5 => ?_)
    rw [h a (by omega) h3.2, h b (by omega) h4.2]
    exact p a b h1 h2 h3.1 h4.1 h5
  | succ d ih =>
    intro j f g hj h
    show ((R j).map (fun c => ts R d (j + 1) _ (fu f j c))).sum * k1 ^ (d + 1) ≤ ((List.range k1).map (fun c => ts (fun _ => List.range k1) d (j + 1) _ (fu g j c))).sum * ((R j).length * pl R d (j + 1))
    by_cases e : R j = [k1]
    · rw [e, List.map_cons, List.map_nil, List.sum_cons, List.sum_nil, Nat.add_zero, List.length_cons, List.length_nil, Nat.zero_add, Nat.one_mul, Nat.pow_succ, ← Nat.mul_assoc, ← sm_mul, Nat.mul_comm _ k1]
      have e2 := sm_k (ts R d (j + 1) (fun f => wI (Pr T n U f)) (fu f j k1) * k1 ^ d) (List.range k1)
      rw [List.length_range] at e2
      rw [← e2]
      refine sm_le _ (fun c _ => ih (j + 1) _ _ (by omega) (fun i hi hn => ?_))
      by_cases z : i = j
      · subst z; exact absurd e hn
      · rw [fu_n z, fu_n z, h i (by omega) hn]
    · rcases hR j (by omega) with e0 | e1
      · exact absurd e0 e
      · rw [e1, List.length_range, Nat.pow_succ, ← Nat.mul_assoc, Nat.mul_comm k1 (pl R d (j + 1)), ← Nat.mul_assoc]
        refine Nat.mul_le_mul_right k1 ?_
        rw [← sm_mul, ← sm_mul]
        refine sm_le _ (fun c _ => ih (j + 1) _ _ (by omega) (fun i hi hn => ?_))
        by_cases z : i = j
        · subst z; rw [fu_s, fu_s]
        · rw [fu_n z, fu_n z, h i (by omega) hn]
end
section
/-! the bound, second half; our own -/
/-- the claim at k colours -/
def TH (T : Nat → Nat → Prop) (n k : Nat) : Prop := ∀ U : Nat → Prop, (2 ≤ k → ¬ CU T n U (k - 1)) → NU T n k U * k ^ k ≤ fac k * k ^ n
theorem th_1 (T : Nat → Nat → Prop) (n : Nat) : TH T n 1 := by
  intro U _
  have h := ts_pl (R := fun _ => List.range 1) (W := fun f => wI (Pr T n U f)) (fun h => wI_1 _) n 0 (fun _ => 0)
  rw [pl_k, Nat.one_pow] at h
  show NU T n 1 U * 1 ^ 1 ≤ 1 * 1 * 1 ^ n
  rw [Nat.one_pow, Nat.one_pow, Nat.mul_one]
  exact h
theorem th_low {T : Nat → Nat → Prop} {n k1 : Nat} (hk : 1 ≤ k1) (ih : TH T n k1) {U : Nat → Prop} (hU : ¬ CU T n U k1) {R : Nat → List Nat} (hR : ∀ i, i < n → R i = [k1] ∨ R i = List.range k1) : ts R n 0 (fun f => wI (Pr T n U f)) (fun _ => 0) * k1 ^ k1 ≤ fac k1 * pl R n 0 := by
  by_cases z : ∃ p q, p < n ∧ q < p ∧ U p ∧ U q ∧ T p q ∧ R p = [k1] ∧ R q = [k1]
  · obtain ⟨p, q, h1, h2, h3, h4, h5, h6, h7⟩ := z
    have e : ts R n 0 (fun f => wI (Pr T n U f)) (fun _ => 0) = 0 := by
      refine ts_0 n 0 _ (fun g hg => wI_f (fun w => w p q h1 h2 h3 h4 h5 ?_))
      have a := hg p (by omega) (by omega)
      have b := hg q (by omega) (by omega)
      rw [h6, List.mem_singleton] at a
      rw [h7, List.mem_singleton] at b
      rw [a, b]
    rw [e, Nat.zero_mul]
    exact Nat.zero_le _
  · have h1 : ¬ CU T n (fun i => U i ∧ ¬ R i = [k1]) (k1 - 1) := by
      rintro ⟨g, g1, g2⟩
      apply hU
      refine ⟨fun i => @ite _ (R i = [k1]) (Classical.propDecidable _) (k1 - 1) (g i), fun i hi hu => ?_, fun p q h1 h2 h3 h4 h5 => ?_⟩
      · dsimp only
        by_cases e : R i = [k1]
        · rw [if_pos e]; omega
        · rw [if_neg e]
          have := g1 i hi ⟨hu, e⟩
          omega
      · dsimp only
        by_cases e : R p = [k1]
        · by_cases e' : R q = [k1]
          · exact absurd ⟨p, q, h1, h2, h3, h4, h5, e, e'⟩ z
          · rw [if_pos e, if_neg e']
            have := g1 q (by omega) ⟨h4, e'⟩
            omega
        · by_cases e' : R q = [k1]
          · rw [if_neg e, if_pos e']
            have := g1 p (by omega) ⟨h3, e⟩
            omega
          · rw [if_neg e, if_neg e']
            exact g2 p q h1 h2 ⟨h3, e⟩ ⟨h4, e'⟩ h5
    have h2 := ih (fun i => U i ∧ ¬ R i = [k1]) (fun _ => h1)
    have h3 := ts_low (T := T) (U := U) hR n 0 (fun _ => 0) (fun _ => 0) (by omega) (fun i hi _ => rfl)
    have hpos : 0 < k1 ^ n := Nat.pow_pos hk
    refine Nat.le_of_mul_le_mul_right ?_ hpos
    generalize ts R n 0 (fun f => wI (Pr T n U f)) (fun _ => 0) = t at h3 ⊢
    generalize pl R n 0 = l at h3 ⊢
    have h4 : NU T n k1 (fun i => U i ∧ ¬ R i = [k1]) = ts (fun _ => List.range k1) n 0 (fun f => wI (Pr T n (fun i => U i ∧ ¬ R i = [k1]) f)) (fun _ => 0) := rfl
    rw [← h4] at h3
    generalize NU T n k1 (fun i => U i ∧ ¬ R i = [k1]) = m at h2 h3
    generalize k1 ^ k1 = a at h2 ⊢
    generalize k1 ^ n = b at h2 h3 ⊢
    generalize fac k1 = c at h2 ⊢
    calc t * a * b = (t * b) * a := by rw [Nat.mul_assoc, Nat.mul_comm a b, ← Nat.mul_assoc]
      _ ≤ (m * l) * a := Nat.mul_le_mul_right a h3
      _ = (m * a) * l := by rw [Nat.mul_assoc, Nat.mul_comm l a, ← Nat.mul_assoc]
      _ ≤ (c * b) * l := Nat.mul_le_mul_right l h2
      _ = c * l * b := by rw [Nat.mul_assoc, Nat.mul_comm b l, ← Nat.mul_assoc]
theorem th_typ {T : Nat → Nat → Prop} {n k1 : Nat} (hk : 1 ≤ k1) (ih : TH T n k1) {U : Nat → Prop} (hU : ¬ CU T n U k1) : ∀ (m : Nat) (R : Nat → List Nat), m ≤ n → (∀ i, i < n → R i = [k1] ∨ R i = List.range k1 ∨ (i < m ∧ R i = List.range (k1 + 1))) → ts R n 0 (fun f => wI (Pr T n U f)) (fun _ => 0) * k1 ^ k1 ≤ fac k1 * pl R n 0 := by
  intro m
  induction m with
  | zero =>
    intro R _ h
    refine th_low hk ih hU (fun i hi => ?_)
    rcases h i hi with a | a | a
    · exact Or.inl a
    · exact Or.inr a
    · omega
  | succ m ihm =>
    intro R hm h
    by_cases e : R m = List.range (k1 + 1)
    · have e2 : R m = List.range k1 ++ [k1] := by rw [e, List.range_succ]
      rw [ts_split e2 n 0 _ (by omega) (by omega), pl_split e2 n 0 (by omega) (by omega), Nat.add_mul, Nat.mul_add]
      refine Nat.add_le_add (ihm _ (by omega) (fun i hi => ?_)) (ihm _ (by omega) (fun i hi => ?_))
      · by_cases z : i = m
        · subst z; rw [fu_s]; exact Or.inr (Or.inl rfl)
        · rw [fu_n z]
          rcases h i hi with a | a | a
          · exact Or.inl a
          · exact Or.inr (Or.inl a)
          · exact Or.inr (Or.inr ⟨by omega, a.2⟩)
      · by_cases z : i = m
        · subst z; rw [fu_s]; exact Or.inl rfl
        · rw [fu_n z]
          rcases h i hi with a | a | a
          · exact Or.inl a
          · exact Or.inr (Or.inl a)
          · exact Or.inr (Or.inr ⟨by omega, a.2⟩)
    · refine ihm R (by omega) (fun i hi => ?_)
      rcases h i hi with a | a | a
      · exact Or.inl a
      · exact Or.inr (Or.inl a)
      · by_cases z : i = m
        · subst z; exact absurd a.2 e
        · exact Or.inr (Or.inr ⟨by omega, a.2⟩)
/-- a least set of points that still needs more than k colours -/
theorem th_crit {T : Nat → Nat → Prop} {n k : Nat} {U : Nat → Prop} (hU : ¬ CU T n U k) : ∀ m, ∃ V : Nat → Prop, (∀ i, V i → U i) ∧ ¬ CU T n V k ∧ ∀ i, i < m → V i → CU T n (fun j => V j ∧ j ≠ i) k := by
  intro m
  induction m with
  | zero => exact ⟨U, fun i h => h, hU, fun i hi => by omega⟩
  | succ m ih =>
    obtain ⟨V, h1, h2, h3⟩ := ih
    by_cases z : CU T n (fun j => V j ∧ j ≠ m) k
    · refine ⟨V, h1, h2, fun i hi hv => ?_⟩
      by_cases e : i = m
      · subst e; exact z
      · exact h3 i (by omega) hv
    · refine ⟨fun j => V j ∧ j ≠ m, fun i h => h1 i h.1, z, fun i hi hv => ?_⟩
      have hv2 : i ≠ m := hv.2
      obtain ⟨g, g1, g2⟩ := h3 i (by omega) hv.1
      exact ⟨g, fun j hj hu => g1 j hj ⟨hu.1.1, hu.2⟩, Pr_sub (fun j hj => ⟨hj.1.1, hj.2⟩) g2⟩
/-- v and w are joined -/
def Ed (T : Nat → Nat → Prop) (v w : Nat) : Prop := (w < v ∧ T v w) ∨ (v < w ∧ T w v)
theorem Pr_ed {T : Nat → Nat → Prop} {n : Nat} {U : Nat → Prop} {f : Nat → Nat} {v w : Nat} (h : Pr T n U f) (hv : v < n) (hw : w < n) (uv : U v) (uw : U w) (e : Ed T v w) : f w ≠ f v := by
  rcases e with ⟨a, b⟩ | ⟨a, b⟩
  · exact h v w hv a uv uw b
  · exact fun z => h w v hw a uw uv b z.symm
/-- in such a set each point has a neighbour of every colour -/
theorem th_nb {T : Nat → Nat → Prop} {n k : Nat} {V : Nat → Prop} {v : Nat} (hV : ¬ CU T n V k) {g : Nat → Nat} (g1 : ∀ i, i < n → (V i ∧ i ≠ v) → g i < k) (g2 : Pr T n (fun j => V j ∧ j ≠ v) g) {c : Nat} (hc : c < k) : ∃ w, w < n ∧ V w ∧ w ≠ v ∧ Ed T v w ∧ g w = c := by
  apply Classical.byContradiction
  intro z
  apply hV
  refine ⟨fu g v c, fun i hi hu => ?_, fun p q h1 h2 h3 h4 h5 => ?_⟩
  · by_cases e : i = v
    · subst e; rw [fu_s]; exact hc
    · rw [fu_n e]; exact g1 i hi ⟨hu, e⟩
  · by_cases e : p = v
    · subst e
      rw [fu_s, fu_n (by omega)]
      exact fun w => z ⟨q, by omega, h4, by omega, Or.inl ⟨h2, h5⟩, w⟩
    · rw [fu_n e]
      by_cases e' : q = v
      · subst e'
        rw [fu_s]
        exact fun w => z ⟨p, h1, h3, e, Or.inr ⟨h2, h5⟩, w.symm⟩
      · rw [fu_n e']
        exact g2 p q h1 h2 ⟨h3, e⟩ ⟨h4, e'⟩ h5
def Rs (k1 v : Nat) (w : Nat → Nat) : Nat → (Nat → List Nat)
  | 0 => fu (fun _ => List.range (k1 + 1)) v [k1]
  | c + 1 => fu (Rs k1 v w c) (w c) (List.range k1)
theorem Rs_o {k1 v : Nat} {w : Nat → Nat} {i : Nat} : ∀ c, i ≠ v → (∀ a, a < c → w a ≠ i) → Rs k1 v w c i = List.range (k1 + 1) := by
  intro c
  induction c with
  | zero => intro h _; exact fu_n h
  | succ c ih =>
    intro h h2
    show fu (Rs k1 v w c) (w c) (List.range k1) i = _
    rw [fu_n (fun e => h2 c (by omega) e.symm), ih h (fun a ha => h2 a (by omega))]
theorem Rs_v {k1 v : Nat} {w : Nat → Nat} : ∀ c, (∀ a, a < c → w a ≠ v) → Rs k1 v w c v = [k1] := by
  intro c
  induction c with
  | zero => intro _; exact fu_s
  | succ c ih =>
    intro h
    show fu (Rs k1 v w c) (w c) (List.range k1) v = _
    rw [fu_n (fun e => h c (by omega) e.symm), ih (fun a ha => h a (by omega))]
theorem Rs_t {k1 v : Nat} {w : Nat → Nat} {i : Nat} : ∀ c, Rs k1 v w c i = [k1] ∨ Rs k1 v w c i = List.range k1 ∨ Rs k1 v w c i = List.range (k1 + 1) := by
  intro c
  induction c with
  | zero =>
    by_cases e : i = v
    · subst e; exact Or.inl fu_s
    · exact Or.inr (Or.inr (fu_n e))
  | succ c ih =>
    by_cases e : i = w c
    · subst e; exact Or.inr (Or.inl fu_s)
    · have : Rs k1 v w (c + 1) i = Rs k1 v w c i := fu_n e
      rw [this]
      exact ih
theorem th_step {T : Nat → Nat → Prop} {n k1 : Nat} (hk : 1 ≤ k1) (ih : TH T n k1) : TH T n (k1 + 1) := by
  intro U hU
  have hU2 := hU (by omega)
  rw [Nat.add_sub_cancel] at hU2
  obtain ⟨V, hV1, hV2, hV3⟩ := th_crit hU2 n
  have hmono : NU T n (k1 + 1) U ≤ NU T n (k1 + 1) V := ts_le n 0 _ (fun h _ _ => wI_le (Pr_sub hV1))
  obtain ⟨v, hv, hvV⟩ : ∃ v, v < n ∧ V v := by
    apply Classical.byContradiction
    intro z
    exact hV2 ⟨fun _ => 0, fun i hi hu => absurd ⟨i, hi, hu⟩ z, fun p q h1 h2 h3 h4 h5 => absurd ⟨p, h1, h3⟩ z⟩
  obtain ⟨g, g1, g2⟩ := hV3 v hv hvV
  have hw0 : ∀ c, ∃ w, c < k1 → w < n ∧ V w ∧ w ≠ v ∧ Ed T v w ∧ g w = c := by
    intro c
    by_cases hc : c < k1
    · obtain ⟨w, hw⟩ := th_nb hV2 g1 g2 hc
      exact ⟨w, fun _ => hw⟩
    · exact ⟨0, fun z => absurd z hc⟩
  have hw : ∀ c, c < k1 → Classical.choose (hw0 c) < n ∧ V (Classical.choose (hw0 c)) ∧ Classical.choose (hw0 c) ≠ v ∧ Ed T v (Classical.choose (hw0 c)) ∧ g (Classical.choose (hw0 c)) = c := fun c hc => Classical.choose_spec (hw0 c) hc
  obtain ⟨w, hw⟩ : ∃ w : Nat → Nat, ∀ c, c < k1 → w c < n ∧ V (w c) ∧ w c ≠ v ∧ Ed T v (w c) ∧ g (w c) = c := ⟨fun c => Classical.choose (hw0 c), hw⟩
  -- the colour of v may be taken as the last one
  have hsym : NU T n (k1 + 1) V = (k1 + 1) * ts (Rs k1 v w 0) n 0 (fun f => wI (Pr T n V f)) (fun _ => 0) := by
    have e1 := ts_fix (W := fun f => wI (Pr T n V f)) hv (fun _ => 0) (List.range (k1 + 1)) (fun _ => List.range (k1 + 1)) rfl
    have e2 : ∀ c, c ∈ List.range (k1 + 1) → ts (fu (fun _ => List.range (k1 + 1)) v [c]) n 0 (fun f => wI (Pr T n V f)) (fun _ => 0) = ts (Rs k1 v w 0) n 0 (fun f => wI (Pr T n V f)) (fun _ => 0) := by
      intro c hc
      rw [List.mem_range] at hc
      refine ts_sw (a := k1) (b := c) (n := n) (fun i F => ?_) (fun h h' hh => ?_) n 0 _ _ (by omega) (fun i hi => by omega)
      · by_cases e : i = v
        · subst e
          show ((fu _ i [c] i).map F).sum = ((fu _ i [k1] i).map _).sum
          rw [fu_s, fu_s, List.map_cons, List.map_cons, List.map_nil, List.map_nil, sw_a]
        · show ((fu _ v [c] i).map F).sum = ((fu _ v [k1] i).map _).sum
          rw [fu_n e, fu_n e, sm_range, sm_range]
          exact (sl_sw (by omega) hc).symm
      · have : Pr T n V h' ↔ Pr T n V h := by
          constructor
          · intro z p q h1 h2 h3 h4 h5 e
            exact z p q h1 h2 h3 h4 h5 (by rw [hh p h1, hh q (by omega), e])
          · intro z p q h1 h2 h3 h4 h5 e
            rw [hh p h1, hh q (by omega)] at e
            exact z p q h1 h2 h3 h4 h5 (sw_inj e)
        exact congrArg wI (propext this)
    show ts (fun _ => List.range (k1 + 1)) n 0 (fun f => wI (Pr T n V f)) (fun _ => 0) = _
    rw [e1, sm_cg _ e2, sm_k, List.length_range]
  -- its neighbours are below
  have hlow : ∀ c, c ≤ k1 → ts (Rs k1 v w 0) n 0 (fun f => wI (Pr T n V f)) (fun _ => 0) = ts (Rs k1 v w c) n 0 (fun f => wI (Pr T n V f)) (fun _ => 0) ∧ pl (Rs k1 v w c) n 0 * (k1 + 1) ^ (c + 1) = (k1 + 1) ^ n * k1 ^ c := by
    intro c
    induction c with
    | zero =>
      intro _
      refine ⟨rfl, ?_⟩
      have := pl_fu (R := fun _ => List.range (k1 + 1)) (i := v) (l := [k1]) n 0 (by omega) (by omega)
      rw [pl_k, List.length_range] at this
      rw [Nat.zero_add, Nat.pow_one, Nat.pow_zero]
      exact this
    | succ c ihc =>
      intro hc
      obtain ⟨i1, i2⟩ := ihc (by omega)
      obtain ⟨w1, w2, w3, w4, w5⟩ := hw c (by omega)
      have hR : Rs k1 v w c (w c) = List.range (k1 + 1) := Rs_o c w3 (fun a ha e => by
        have x := (hw a (by omega)).2.2.2.2
        rw [e, w5] at x
        omega)
      have hRv : Rs k1 v w c v = [k1] := Rs_v c (fun a ha => (hw a (by omega)).2.2.1)
      constructor
      · rw [i1, ts_split (show Rs k1 v w c (w c) = List.range k1 ++ [k1] by rw [hR, List.range_succ]) n 0 _ (by omega) (by omega)]
        have e0 : ts (fu (Rs k1 v w c) (w c) [k1]) n 0 (fun f => wI (Pr T n V f)) (fun _ => 0) = 0 := by
          refine ts_0 n 0 _ (fun h hh => wI_f (fun z => Pr_ed z hv w1 hvV w2 w4 ?_))
          have a := hh v (by omega) (by omega)
          have b := hh (w c) (by omega) (by omega)
          rw [fu_n (fun e => w3 e.symm), hRv, List.mem_singleton] at a
          rw [fu_s, List.mem_singleton] at b
          rw [a, b]
        rw [e0]
        rfl
      · have := pl_fu (R := Rs k1 v w c) (i := w c) (l := List.range k1) n 0 (by omega) (by omega)
        rw [hR, List.length_range, List.length_range] at this
        show pl (fu (Rs k1 v w c) (w c) (List.range k1)) n 0 * (k1 + 1) ^ (c + 1 + 1) = _
        rw [Nat.pow_succ (n := k1 + 1) (m := c + 1), Nat.mul_comm ((k1 + 1) ^ (c + 1)), ← Nat.mul_assoc, this, Nat.mul_assoc, Nat.mul_comm k1, ← Nat.mul_assoc, i2, Nat.mul_assoc, ← Nat.pow_succ]
  obtain ⟨l1, l2⟩ := hlow k1 (Nat.le_refl _)
  have htyp := th_typ hk ih hV2 n (Rs k1 v w k1) (Nat.le_refl n) (fun i hi => by
    rcases Rs_t (k1 := k1) (v := v) (w := w) (i := i) k1 with a | a | a
    · exact Or.inl a
    · exact Or.inr (Or.inl a)
    · exact Or.inr (Or.inr ⟨hi, a⟩))
  rw [← l1] at htyp
  have hpos : 0 < k1 ^ k1 := Nat.pow_pos hk
  have hf : fac (k1 + 1) = (k1 + 1) * fac k1 := rfl
  refine Nat.le_trans (Nat.mul_le_mul_right _ hmono) ?_
  rw [hsym, hf]
  generalize ts (Rs k1 v w 0) n 0 (fun f => wI (Pr T n V f)) (fun _ => 0) = t at htyp
  generalize pl (Rs k1 v w k1) n 0 = l at htyp l2
  generalize k1 ^ k1 = a at htyp l2 hpos
  generalize (k1 + 1) ^ (k1 + 1) = b at l2 ⊢
  generalize (k1 + 1) ^ n = c at l2 ⊢
  generalize fac k1 = d at htyp ⊢
  have h2 : t * b ≤ d * c := by
    refine Nat.le_of_mul_le_mul_right ?_ hpos
    calc t * b * a = (t * a) * b := by rw [Nat.mul_assoc, Nat.mul_comm b a, ← Nat.mul_assoc]
      _ ≤ (d * l) * b := Nat.mul_le_mul_right b htyp
      _ = d * (l * b) := Nat.mul_assoc _ _ _
      _ = d * c * a := by rw [l2, Nat.mul_assoc]
  rw [Nat.mul_assoc, Nat.mul_assoc]
  exact Nat.mul_le_mul_left _ h2
theorem th_all (T : Nat → Nat → Prop) (n : Nat) : ∀ k, 1 ≤ k → TH T n k := by
  intro k
  induction k with
  | zero => intro h; omega
  | succ k ih =>
    intro _
    by_cases e : k = 0
    · subst e; exact th_1 T n
    · exact th_step (by omega) (ih (by omega))
/-- the list of the walk is no longer than the sum -/
theorem dl_ts (T : Nat → Nat → Prop) {n k : Nat} : ∀ d j f, j + d = n → (∀ i, i < j → AF T i f (f i)) → (dl (AF T) k d j f).length ≤ ts (fun _ => List.range k) d j (fun f => wI (Pr T n (fun _ => True) f)) f := by
  intro d
  induction d with
  | zero =>
    intro j f hj h
    show 1 ≤ wI _
    rw [wI_t (show Pr T n (fun _ => True) f from fun p q h1 h2 _ _ h5 => h p (by omega) q h2 h5)]
    exact Nat.le_refl 1
  | succ d ih =>
    intro j f hj h
    show (ds _ k 0).length ≤ ((List.range k).map (fun c => ts (fun _ => List.range k) d (j + 1) _ (fu f j c))).sum
    rw [ds_len, ← sm_range]
    refine sm_le _ (fun c _ => ?_)
    by_cases a : AF T j f c
    · rw [if_pos a]
      refine ih (j + 1) _ (by omega) (fun i hi => ?_)
      by_cases e : i = j
      · subst e
        rw [fu_s]
        exact AF_loc T i f _ c (fun q hq => (fu_n (by omega)).symm) a
      · rw [fu_n e]
        exact AF_loc T i f _ _ (fun q hq => (fu_n (by omega)).symm) (h i (by omega))
    · rw [if_neg a]
      exact Nat.zero_le _
theorem bd_num : ∀ k, k < 9 → 1 ≤ k → ∀ x, x * k ^ k ≤ fac k * k ^ 8 → x ≤ 50000 := by
  intro k hk h1 x h
  rcases (show k = 1 ∨ k = 2 ∨ k = 3 ∨ k = 4 ∨ k = 5 ∨ k = 6 ∨ k = 7 ∨ k = 8 by omega) with e | e | e | e | e | e | e | e <;> subst e <;> simp only [fac] at h <;> omega
theorem dl_bound (T : Nat → Nat → Prop) {n k : Nat} (hn : n ≤ 8) (hk : 1 ≤ k) (hk8 : k ≤ 8) (h : 2 ≤ k → ¬ Col T n (k - 1)) : (dl (AF T) k n 0 (fun _ => 0)).length ≤ 50000 := by
  have h1 := dl_ts T (n := n) (k := k) n 0 (fun _ => 0) (by omega) (fun i hi => by omega)
  have h2 := th_all T n k hk (fun _ => True) (fun z => by
    rintro ⟨g, g1, g2⟩
    exact h z ⟨g, fun p hp => ⟨g1 p hp trivial, fun q hq t => g2 p q hp hq trivial trivial t⟩⟩)
  refine bd_num k (by omega) hk _ (Nat.le_trans (Nat.mul_le_mul_right _ h1) (Nat.le_trans h2 (Nat.mul_le_mul_left _ ?_)))
  exact Nat.pow_le_pow_right hk hn
end
section
/-! the component's walk; our own -/
/-- the steps below a point, if point p has b p colours -/
def ms (b : Nat → Nat) : Nat → Nat → Nat
  | 0, _ => 0
  | d + 1, p => (b p + 1) + b p * ms b d (p + 1)
def mu (b : Nat → Nat) (n : Nat) (f : Nat → Nat) : Nat → Nat
  | 0 => 0
  | p + 1 => (b p - f p) + (b p - (f p + 1)) * ms b (n - 1 - p) (p + 1) + mu b n f p
/-- the steps that are left at most -/
def mM (b : Nat → Nat) (n : Nat) (f : Nat → Nat) (p c : Nat) : Nat := (b p + 1 - c) + (b p - c) * ms b (n - 1 - p) (p + 1) + mu b n f p
theorem mu_cg {b : Nat → Nat} {n : Nat} {f g : Nat → Nat} : ∀ p, (∀ q, q < p → f q = g q) → mu b n f p = mu b n g p := by
  intro p
  induction p with
  | zero => intro _; rfl
  | succ p ih =>
    intro h
    show (b p - f p) + (b p - (f p + 1)) * ms b (n - 1 - p) (p + 1) + mu b n f p = (b p - g p) + (b p - (g p + 1)) * ms b (n - 1 - p) (p + 1) + mu b n g p
    rw [ih (fun q hq => h q (by omega)), h p (by omega)]
theorem mM_le {b : Nat → Nat} {n : Nat} {f : Nat → Nat} {p c c' : Nat} (h : c ≤ c') : mM b n f p c' ≤ mM b n f p c := by
  unfold mM
  have h1 : (b p - c') * ms b (n - 1 - p) (p + 1) ≤ (b p - c) * ms b (n - 1 - p) (p + 1) := Nat.mul_le_mul_right _ (by omega)
  omega
theorem mM_lt {b : Nat → Nat} {n : Nat} {f : Nat → Nat} {p c c' : Nat} (h : c < c') (hc : c ≤ b p) : mM b n f p c' < mM b n f p c := by
  unfold mM
  have h1 : (b p - c') * ms b (n - 1 - p) (p + 1) ≤ (b p - c) * ms b (n - 1 - p) (p + 1) := Nat.mul_le_mul_right _ (by omega)
  omega
theorem mM_fu {b : Nat → Nat} {n : Nat} {f : Nat → Nat} {p c c' : Nat} : mM b n (fu f p c') p c = mM b n f p c := by
  unfold mM
  rw [mu_cg (f := fu f p c') (g := f) p (fun q hq => fu_n (by omega))]
theorem mM_down {b : Nat → Nat} {n : Nat} {f : Nat → Nat} {p c : Nat} (hp : p + 1 < n) (hc : c < b p) : mM b n (fu f p c) (p + 1) 0 < mM b n f p c := by
  have e : ms b (n - 1 - p) (p + 1) = (b (p + 1) + 1) + b (p + 1) * ms b (n - 1 - (p + 1)) (p + 1 + 1) := by
    rw [show n - 1 - p = (n - 1 - (p + 1)) + 1 by omega]
    rfl
  have e2 : mu b n (fu f p c) (p + 1) = (b p - c) + (b p - (c + 1)) * ms b (n - 1 - p) (p + 1) + mu b n f p := by
    show (b p - fu f p c p) + (b p - (fu f p c p + 1)) * ms b (n - 1 - p) (p + 1) + mu b n (fu f p c) p = _
    rw [fu_s, mu_cg (f := fu f p c) (g := f) p (fun q hq => fu_n (by omega))]
  unfold mM
  rw [e2, Nat.sub_zero, Nat.sub_zero, ← e]
  rw [show b p - c = (b p - (c + 1)) + 1 by omega, Nat.add_mul, Nat.one_mul]
  generalize (b p - (c + 1)) * ms b (n - 1 - p) (p + 1) = y
  omega
theorem mM_pop {b : Nat → Nat} {n : Nat} {f : Nat → Nat} {p c : Nat} (hc : c ≤ b (p + 1)) : mM b n f p (f p + 1) < mM b n f (p + 1) c := by
  unfold mM
  show _ < _ + _ + ((b p - f p) + (b p - (f p + 1)) * ms b (n - 1 - p) (p + 1) + mu b n f p)
  generalize (b p - (f p + 1)) * ms b (n - 1 - p) (p + 1) = y
  generalize (b (p + 1) - c) * ms b (n - 1 - (p + 1)) (p + 1 + 1) = z
  omega
theorem mM_pos {b : Nat → Nat} {n : Nat} {f : Nat → Nat} {p c : Nat} (hc : c ≤ b p) : 1 ≤ mM b n f p c := by
  unfold mM
  omega
theorem mM_0 {b : Nat → Nat} {n : Nat} {f : Nat → Nat} (hn : 1 ≤ n) : mM b n f 0 0 = ms b n 0 := by
  obtain ⟨m, rfl⟩ : ∃ m, n = m + 1 := ⟨n - 1, by omega⟩
  rfl
theorem mM_max {b : Nat → Nat} {n : Nat} {f : Nat → Nat} : ∀ p, p < n → (∀ q, q < p → f q < b q) → ∀ c, mM b n f p c ≤ ms b n 0 := by
  intro p
  induction p with
  | zero =>
    intro hp _ c
    rw [← mM_0 (f := f) (by omega)]
    exact mM_le (by omega)
  | succ p ih =>
    intro hp h c
    have h1 := ih (by omega) (fun q hq => h q (by omega)) (f p)
    have h2 := mM_down (f := f) (c := f p) hp (h p (by omega))
    rw [fu_id] at h2
    have h3 := mM_le (b := b) (n := n) (f := f) (p := p + 1) (Nat.zero_le c)
    omega
theorem AF_tc {T : Nat → Nat → Prop} {p c : Nat} {f : Nat → Nat} : AF T p (tc f p) c ↔ AF T p f c := ⟨AF_loc T p _ _ c (fun q hq => tc_l hq), AF_loc T p _ _ c (fun q hq => (tc_l hq).symm)⟩
theorem AX_tc {T : Nat → Nat → Prop} {p c : Nat} {f : Nat → Nat} : AX T p (tc f p) c ↔ AX T p f c := by
  unfold AX
  rw [AF_tc, fU_cg p (fun q hq => tc_l hq)]
/-- the links of an array of rows -/
def tT (t : Nat → Int32) (p q : Nat) : Prop := bt (t p) q = true
theorem x_fU {post : Int32 → Prop} {F : Int32} {L t sh : Nat → Int32} {f : Nat → Nat} {p : Nat} (hp : p ≤ 8) (hs : ∀ q, q < p → sh q = nI (f q)) (hf : ∀ q, q < p → f q ≤ q) (h : post (nI (fU f p))) : ∀ d q, q + d = p → ∀ fuel, d < fuel → wX_firstUnused_4 post (nI p) F L t sh fuel (nI (fU f q)) (nI q) := by
  intro d
  induction d with
  | zero =>
    intro q hq fuel hfu
    obtain ⟨m, rfl⟩ : ∃ m, fuel = m + 1 := ⟨fuel - 1, by omega⟩
    have e : q = p := by omega
    subst e
    exact br_t (nI_le (Nat.le_refl q) (by omega)) h
  | succ d ih =>
    intro q hq fuel hfu
    obtain ⟨m, rfl⟩ : ∃ m, fuel = m + 1 := ⟨fuel - 1, by omega⟩
    have hin : vp_in (nI q) 8 := vp_in_nI (by omega) (by omega)
    have e : sh (nI q).toNatClampNeg = nI (f q) := by rw [nI_clamp (by omega), hs q (by omega)]
    have hb := hf q (by omega)
    have hb2 := fU_le (f := f) q (fun a ha => hf a (by omega))
    have hr := ih (q + 1) (by omega) m (by omega)
    refine br_f (nI_ge (by omega) (by omega)) ⟨hin, pk_lt (f q) (fU f q) (fun lt => nm_r (nI_1 q) ?_) (fun ge => ⟨hin, nm_r (e' := nI (f q + 1)) (by rw [e, nI_1]) (nm_r (nI_1 q) ?_)⟩) e rfl (by omega) (by omega)⟩
    · rw [show fU f (q + 1) = fU f q from if_neg (by omega)] at hr
      exact hr
    · rw [show fU f (q + 1) = f q + 1 from if_pos ge] at hr
      exact hr
theorem x_cl {post : Int32 → Prop} {F : Int32} {L t sh : Nat → Int32} {f : Nat → Nat} {p c : Nat} (hp : p < 8) (hc : c ≤ 8) (hs : ∀ q, q < p → sh q = nI (f q)) (hf : ∀ q, q < p → f q ≤ q) (h0 : AF (tT t) p f c → post 0) (h1 : ¬ AF (tT t) p f c → post 1) : ∀ d q, q + d = p → (∀ a, a < q → tT t p a → f a ≠ c) → ∀ fuel, d < fuel → wX_clashes_2 post (nI p) (nI c) F L t sh fuel (nI q) := by
  intro d
  induction d with
  | zero =>
    intro q hq hn fuel hfu
    obtain ⟨m, rfl⟩ : ∃ m, fuel = m + 1 := ⟨fuel - 1, by omega⟩
    have e : q = p := by omega
    subst e
    exact br_t (nI_le (Nat.le_refl q) (by omega)) (h0 hn)
  | succ d ih =>
    intro q hq hn fuel hfu
    obtain ⟨m, rfl⟩ : ∃ m, fuel = m + 1 := ⟨fuel - 1, by omega⟩
    have hin : vp_in (nI q) 8 := vp_in_nI (by omega) (by omega)
    have hip : vp_in (nI p) 8 := vp_in_nI (by omega) (by omega)
    have e : sh (nI q).toNatClampNeg = nI (f q) := by rw [nI_clamp (by omega), hs q (by omega)]
    have hb := hf q (by omega)
    refine br_f (nI_ge (by omega) (by omega)) ⟨hin, pk_eq (f q) c (fun eq => ⟨hip, ?_⟩) (fun ne => nm_r (nI_1 q) ?_) e rfl (by omega) (by omega)⟩
    · refine cb_br (by omega) (fun b => ?_) (fun b => nm_r (nI_1 q) ?_)
      · rw [nI_clamp (by omega)] at b
        exact h1 (fun z => z q (by omega) b eq)
      · rw [nI_clamp (by omega)] at b
        refine ih (q + 1) (by omega) (fun a ha ht => ?_) m (by omega)
        by_cases z : a = q
        · subst z; exact absurd ht b
        · exact hn a (by omega) ht
    · refine ih (q + 1) (by omega) (fun a ha ht => ?_) m (by omega)
      by_cases z : a = q
      · subst z; exact ne
      · exact hn a (by omega) ht
theorem x_ns {post : Int32 → Prop} {F : Int32} {L t sh : Nat → Int32} {f : Nat → Nat} {p k c0 : Nat} (hp : p < 8) (hk : k ≤ 8) (hs : ∀ q, q < p → sh q = nI (f q)) (hf : ∀ q, q < p → f q ≤ q) (h0 : (∀ i, c0 ≤ i → i < k → ¬ AX (tT t) p f i) → post (-1)) (h1 : ∀ c, c0 ≤ c → c < k → AX (tT t) p f c → (∀ i, c0 ≤ i → i < c → ¬ AX (tT t) p f i) → post (nI c)) : ∀ d c, c + d = 9 → c0 ≤ c → (∀ i, c0 ≤ i → i < c → ¬ AX (tT t) p f i) → ∀ fuel, d < fuel → wX_nextShade_16 post (nI p) (nI k) (nI (fU f p)) F L t sh fuel (nI c) := by
  have hU := fU_le (f := f) p hf
  intro d
  induction d with
  | zero =>
    intro c hc h00 hn fuel hfu
    obtain ⟨m, rfl⟩ : ∃ m, fuel = m + 1 := ⟨fuel - 1, by omega⟩
    exact br_t (nI_le (by omega) (by omega)) (h0 (fun i h2 h3 => hn i h2 (by omega)))
  | succ d ih =>
    intro c hc h00 hn fuel hfu
    obtain ⟨m, rfl⟩ : ∃ m, fuel = m + 1 := ⟨fuel - 1, by omega⟩
    refine pk_le k c (fun le => h0 (fun i h2 h3 => hn i h2 (by omega))) (fun lt => ?_)
    refine pk_lt (fU f p) c (fun lt2 => h0 (fun i h2 h3 z => ?_)) (fun ge => ?_)
    · by_cases w : i < c
      · exact hn i h2 w z
      · have := z.1
        omega
    · refine ⟨p + 1, ?_⟩
      have hx := x_cl (post := fun r_10 => (((r_10 = 0 → (post (nI c))) ∧ (¬ r_10 = 0 → (∀ y, y = nI c + 1 → (wX_nextShade_16 post (nI p) (nI k) (nI (fU f p)) F L t sh m y)))))) (F := F) (L := L) (t := t) (sh := sh) (f := f) (p := p) (c := c) hp (by omega) hs hf (fun a => br_t rfl (h1 c h00 lt ⟨ge, a⟩ hn)) (fun a => br_f (by decide) (nm_r (nI_1 c) (ih (c + 1) (by omega) (by omega) (fun i h2 h3 z => ?_) m (by omega)))) p 0 (by omega) (fun a ha => by omega) (p + 1) (by omega)
      · exact hx
      · by_cases w : i < c
        · exact hn i h2 w z
        · have e : i = c := by omega
          subst e
          exact a z.2
theorem x_next {post : Int32 → Prop} {F : Int32} {L t sh : Nat → Int32} {f : Nat → Nat} {p k c0 : Nat} (hp : p < 8) (hk : k ≤ 8) (hc0 : c0 ≤ 9) (hs : ∀ q, q < p → sh q = nI (f q)) (hf : ∀ q, q < p → f q ≤ q) (hsp : sh p + 1 = nI c0) (h0 : (∀ i, c0 ≤ i → i < k → ¬ AX (tT t) p f i) → post (-1)) (h1 : ∀ c, c0 ≤ c → c < k → AX (tT t) p f c → (∀ i, c0 ≤ i → i < c → ¬ AX (tT t) p f i) → post (nI c)) : wpX_nextShade post (F, L, t, sh) (nI p) (nI k) := by
  refine ⟨p + 1, ?_⟩
  refine x_fU (post := fun r_1 => (vp_in (nI p) 8 ∧ (∀ x4_7 : Int32, x4_7 = (sh (nI p).toNatClampNeg) + 1 → (∃ n16 : Nat, wX_nextShade_16 post (nI p) (nI k) r_1 F L t sh n16 x4_7)))) (f := f) (by omega) hs hf ?_ p 0 (by omega) (p + 1) (by omega)
  refine ⟨vp_in_nI hp (by omega), nm_r (e' := nI c0) (by rw [nI_clamp (by omega), hsp]) ⟨10, ?_⟩⟩
  exact x_ns hp hk hs hf h0 h1 (9 - c0) c0 (by omega) (Nat.le_refl _) (fun i h2 h3 => by omega) 10 (by omega)
end
section
/-! the component's count of colourings, and the least number of colours; our own -/
theorem cb_ne1 : ∀ c, c < 16 → ¬ nI c = -1 := by decide
theorem cb_m10 : (-1 : Int32) + 1 = nI 0 := by decide
def bX (p : Nat) : Nat := p + 1
theorem x_count {post : Int32 → SX → Prop} {L t : Nat → Int32} {n k most : Nat} (hn : n ≤ 8) (hk : k ≤ 8) (hm : most ≤ 1000000) : ∀ (fuel found p c step : Nat) (f : Nat → Nat) (sh : Nat → Int32), p < n → c ≤ p + 1 → (∀ q, q < p → f q ≤ q) → (∀ q, q < p → sh q = nI (f q)) → sh p + 1 = nI c → found < most → step + mM bX n f p c ≤ 1000000 → mM bX n f p c < fuel → (found + 1 = most ∨ found + (rm_ (AX (tT t)) k n f p c).length < most) → (found + (rm_ (AX (tT t)) k n f p c).length < most → ∀ sh', post (nI (found + (rm_ (AX (tT t)) k n f p c).length)) (nI n, L, t, sh')) → (∀ h tl, rm_ (AX (tT t)) k n f p c = h :: tl → found + 1 = most → ∀ sh' : Nat → Int32, (∀ i, i < n → sh' i = nI (h i)) → post (nI most) (nI n, L, t, sh')) → wX_countColourings_15 post (nI k) (nI most) (nI n) fuel (nI found) (nI p) (nI step) L t sh := by
  intro fuel
  induction fuel with
  | zero => intro found p c step f sh _ _ _ _ _ _ _ h; omega
  | succ m ih =>
    intro found p c step f sh hp hc hf hs hsp hfm hst hfu hal h0 h1
    have hpos := mM_pos (b := bX) (n := n) (f := f) (p := p) (c := c) (by unfold bX; omega)
    have hcl : (nI p).toNatClampNeg = p := nI_clamp (by omega)
    have hin : vp_in (nI p) 8 := vp_in_nI (by omega) (by omega)
    have hU := fU_le (f := f) p hf
    refine br_f (nI_ge (b := 1000000) (by omega) (by decide)) (br_f (nI_pos (by omega)) (br_f (nI_ge (by omega) (by omega)) ?_))
    refine x_next (f := f) (c0 := c) (by omega) hk (by omega) hs hf hsp (fun hno => ?_) (fun c' hc1 hc2 hA hno => ?_)
    · refine ⟨hin, nm_r (e' := upd sh p (-1)) (by rw [hcl]) (br_t rfl ?_)⟩
      cases p with
      | zero =>
        obtain ⟨m', rfl⟩ : ∃ m', m = m' + 1 := ⟨m - 1, by omega⟩
        have e : rm_ (AX (tT t)) k n f 0 c = [] := rm_end (fun i a b z => hno i a b (AX_tc.mp z))
        rw [e] at h0
        have P := h0 (show found + 0 < most from hfm) (upd sh 0 (-1))
        exact nm_e (nm_e (br_c (fun _ => P) (fun _ => br_t (by decide) P)))
      | succ q =>
        have e : rm_ (AX (tT t)) k n f (q + 1) c = rm_ (AX (tT t)) k n f q (f q + 1) := rm_pop (fun i a b z => hno i a b (AX_tc.mp z))
        have hlt := mM_pop (b := bX) (n := n) (f := f) (p := q) (c := c) (by unfold bX; omega)
        rw [e] at h0 h1 hal
        have hfq := hf q (by omega)
        refine nm_r (pk_m1 q) (nm_r (nI_1 step) (ih found q (f q + 1) (step + 1) f _ (by omega) (by omega) (fun a ha => hf a (by omega)) (fun a ha => ?_) ?_ hfm (by omega) (by omega) hal h0 h1))
        · rw [pk_un (by omega), hs a (by omega)]
        · rw [pk_un (by omega), hs q (by omega), nI_1]
    · have hcp : c' ≤ p := Nat.le_trans hA.1 hU
      have eS : rm_ (AX (tT t)) k n f p c = rm_ (AX (tT t)) k n f p c' := rm_skip hc1 (by omega) (fun i a b z => hno i a b (AX_tc.mp z))
      have hMl := mM_le (b := bX) (n := n) (f := f) (p := p) hc1
      refine ⟨hin, nm_r (e' := upd sh p (nI c')) (by rw [hcl]) (br_f (cb_ne1 c' (by omega)) ?_)⟩
      have en : nI n - 1 = nI (n - 1) := by
        obtain ⟨n', rfl⟩ : ∃ n', n = n' + 1 := ⟨n - 1, by omega⟩
        exact nI_pred n'
      refine pk_eq p (n - 1) (fun e1 => ?_) (fun e1 => ?_) rfl en (by omega) (by omega)
      · have eR : rm_ (AX (tT t)) k n f p c = tc (fu f p c') n :: rm_ (AX (tT t)) k n (fu f p c') p (c' + 1) := by
          rw [eS]
          exact rm_leaf (by omega) hc2 (AX_tc.mpr hA)
        rw [eR] at h0 hal
        rw [List.length_cons] at h0 hal
        refine nm_r (nI_1 found) (nm_r (nI_1 step) ?_)
        have hlt := mM_lt (b := bX) (n := n) (f := f) (p := p) (c := c') (c' := c' + 1) (by omega) (by unfold bX; omega)
        by_cases z : found + 1 = most
        · obtain ⟨m', rfl⟩ : ∃ m', m = m' + 1 := ⟨m - 1, by omega⟩
          have P := h1 _ _ eR z (upd sh p (nI c')) (fun i hi => by
            by_cases w : i = p
            · subst w; rw [pk_us, tc_l hi, fu_s]
            · rw [pk_un w, tc_l hi, fu_n w, hs i (by omega)])
          rw [z]
          exact br_c (fun _ => P) (fun _ => br_c (fun _ => P) (fun _ => br_t (nI_le (Nat.le_refl most) (by omega)) P))
        · have hal2 : found + ((rm_ (AX (tT t)) k n (fu f p c') p (c' + 1)).length + 1) < most := by
            rcases hal with a | a
            · exact absurd a z
            · exact a
          refine ih (found + 1) p (c' + 1) (step + 1) (fu f p c') _ hp (by omega) (fun a ha => ?_) (fun a ha => ?_) ?_ (by omega) (by rw [mM_fu]; omega) (by rw [mM_fu]; omega) (Or.inr (by omega)) (fun ha sh' => ?_) (fun h tl e3 e4 => ?_)
          · rw [fu_n (by omega)]; exact hf a ha
          · rw [pk_un (by omega), fu_n (by omega)]; exact hs a ha
          · rw [pk_us, nI_1]
          · have := h0 hal2 sh'
            rw [show found + 1 + (rm_ (AX (tT t)) k n (fu f p c') p (c' + 1)).length = found + ((rm_ (AX (tT t)) k n (fu f p c') p (c' + 1)).length + 1) by omega]
            exact this
          · rw [e3, List.length_cons] at hal2
            omega
      · have eR : rm_ (AX (tT t)) k n f p c = rm_ (AX (tT t)) k n (fu f p c') (p + 1) 0 := by
          rw [eS]
          exact rm_down (by omega) hc2 (AX_tc.mpr hA)
        rw [eR] at h0 h1 hal
        have hlt := mM_down (b := bX) (n := n) (f := f) (p := p) (c := c') (by omega) (by unfold bX; omega)
        refine nm_r (nI_1 p) ⟨vp_in_nI (by omega) (by omega), nm_r (e' := upd (upd sh p (nI c')) (p + 1) (-1)) (by rw [nI_clamp (by omega)]) (nm_r (nI_1 step) ?_)⟩
        refine ih found (p + 1) 0 (step + 1) (fu f p c') _ (by omega) (by omega) (fun a ha => ?_) (fun a ha => ?_) ?_ hfm (by omega) (by omega) hal h0 h1
        · by_cases w : a = p
          · subst w; rw [fu_s]; exact hcp
          · rw [fu_n w]; exact hf a (by omega)
        · by_cases w : a = p
          · subst w; rw [pk_un (by omega), pk_us, fu_s]
          · rw [pk_un (by omega), pk_un w, fu_n w]; exact hs a (by omega)
        · rw [pk_us]; exact cb_m10
theorem bX_s : ∀ n, n < 9 → ms bX n 0 ≤ 52147 := by decide +kernel
theorem x_cc {post : Int32 → SX → Prop} {L t sh : Nat → Int32} {n k most : Nat} (hn1 : 1 ≤ n) (hn : n ≤ 8) (hk : k ≤ 8) (hm0 : 1 ≤ most) (hm : most ≤ 1000000) (hal : 1 = most ∨ (dl (AX (tT t)) k n 0 (fun _ => 0)).length < most) (h0 : (dl (AX (tT t)) k n 0 (fun _ => 0)).length < most → ∀ sh', post (nI (dl (AX (tT t)) k n 0 (fun _ => 0)).length) (nI n, L, t, sh')) (h1 : ∀ h tl, dl (AX (tT t)) k n 0 (fun _ => 0) = h :: tl → 1 = most → ∀ sh' : Nat → Int32, (∀ i, i < n → sh' i = nI (h i)) → post (nI most) (nI n, L, t, sh')) : wpX_countColourings post (nI n, L, t, sh) (nI k) (nI most) := by
  have e := rm_0 (AX (tT t)) k (fun _ => 0) hn1
  have hms := bX_s n (by omega)
  have hM := mM_0 (b := bX) (f := fun _ => 0) hn1
  rw [← e] at hal h0 h1
  refine nm_e ⟨1000000, ?_⟩
  refine x_count hn hk hm 1000000 0 0 0 0 (fun _ => 0) _ (by omega) (by omega) (fun q hq => by omega) (fun q hq => by omega) ?_ (by omega) (by omega) (by omega) (by rw [Nat.zero_add, Nat.zero_add]; exact hal) (by rw [Nat.zero_add]; exact h0) (by rw [Nat.zero_add]; exact h1)
  rw [pk_us]
  exact cb_m10
/-- leastColours answers the least number, and leaves the first colouring -/
theorem x_lc {post : Int32 → SX → Prop} {L t : Nat → Int32} {n x : Nat} (hn1 : 1 ≤ n) (hn : n ≤ 8) (hx : Chi (Col (tT t) n) x) (h : ∀ (sh' : Nat → Int32) (h : Nat → Nat), (dl (AX (tT t)) x n 0 (fun _ => 0)).head? = some h → (∀ i, i < n → sh' i = nI (h i)) → post (nI x) (nI n, L, t, sh')) : ∀ (d k : Nat) (sh : Nat → Int32), 1 ≤ k → k + d = x → ∀ fuel, d < fuel → wX_leastColours_2 post fuel (nI k) (nI n) L t sh := by
  obtain ⟨x1, x2, x3⟩ := hx
  have hxn : x ≤ n := by
    apply Classical.byContradiction
    intro z
    exact x3 n hn1 (by omega) (Col_n _ n)
  intro d
  induction d with
  | zero =>
    intro k sh hk1 hkx fuel hfu
    obtain ⟨m, rfl⟩ : ∃ m, fuel = m + 1 := ⟨fuel - 1, by omega⟩
    have e : k = x := by omega
    subst e
    refine br_f (nI_nlt (by omega) (by omega)) ?_
    refine x_cc (most := 1) hn1 hn (by omega) (by omega) (by omega) (Or.inl rfl) (fun z sh' => ?_) (fun h' tl e1 _ sh' hsh => ?_)
    · exact absurd (List.length_eq_zero_iff.mp (by omega)) ((dx_col _ _ _).mpr x2)
    · exact br_t rfl (h sh' h' (by rw [e1]; rfl) hsh)
  | succ d ih =>
    intro k sh hk1 hkx fuel hfu
    obtain ⟨m, rfl⟩ : ∃ m, fuel = m + 1 := ⟨fuel - 1, by omega⟩
    have e0 : dl (AX (tT t)) k n 0 (fun _ => 0) = [] := by
      apply Classical.byContradiction
      intro z
      exact x3 k hk1 (by omega) ((dx_col _ _ _).mp z)
    refine br_f (nI_nlt (by omega) (by omega)) ?_
    refine x_cc (most := 1) hn1 hn (by omega) (by omega) (by omega) (Or.inl rfl) (fun z sh' => ?_) (fun h' tl e1 _ sh' hsh => ?_)
    · rw [e0]
      exact br_f (by decide) (nm_r (nI_1 k) (ih (k + 1) sh' (by omega) (by omega) m (by omega)))
    · rw [e0] at e1
      cases e1
theorem x_least {post : Int32 → SX → Prop} {L t sh : Nat → Int32} {n x : Nat} (hn1 : 1 ≤ n) (hn : n ≤ 8) (hx : Chi (Col (tT t) n) x) (h : ∀ (sh' : Nat → Int32) (h : Nat → Nat), (dl (AX (tT t)) x n 0 (fun _ => 0)).head? = some h → (∀ i, i < n → sh' i = nI (h i)) → post (nI x) (nI n, L, t, sh')) : wpX_leastColours post (nI n, L, t, sh) :=
  ⟨x + 1, x_lc hn1 hn hx h (x - 1) 1 sh (by omega) (by have := hx.1; omega) (x + 1) (by omega)⟩
theorem x_copy {post : SX → Prop} {L sh : Nat → Int32} {n : Nat} (hn : n ≤ 8) (h : ∀ t' : Nat → Int32, (∀ i, i < n → t' i = L i) → post (nI n, L, t', sh)) : ∀ (d p : Nat) (t : Nat → Int32), p + d = n → (∀ i, i < p → t i = L i) → ∀ fuel, d < fuel → wX_copyLinks_2 post (nI n) fuel (nI p) L t sh := by
  intro d
  induction d with
  | zero =>
    intro p t hp ht fuel hfu
    obtain ⟨m, rfl⟩ : ∃ m, fuel = m + 1 := ⟨fuel - 1, by omega⟩
    exact br_t (nI_le (by omega) (by omega)) (h t (fun i hi => ht i (by omega)))
  | succ d ih =>
    intro p t hp ht fuel hfu
    obtain ⟨m, rfl⟩ : ∃ m, fuel = m + 1 := ⟨fuel - 1, by omega⟩
    have hin : vp_in (nI p) 8 := vp_in_nI (by omega) (by omega)
    refine br_f (nI_ge (by omega) (by omega)) ⟨hin, hin, nm_r (e' := upd t p (L p)) (by rw [nI_clamp (by omega)]) (nm_r (nI_1 p) (ih (p + 1) _ (by omega) (fun i hi => ?_) m (by omega)))⟩
    by_cases e : i = p
    · subst e; rw [pk_us]
    · rw [pk_un e]; exact ht i (by omega)
theorem x_cp {post : SX → Prop} {L t sh : Nat → Int32} {n : Nat} (hn : n ≤ 8) (h : ∀ t' : Nat → Int32, (∀ i, i < n → t' i = L i) → post (nI n, L, t', sh)) : wpX_copyLinks post (nI n, L, t, sh) :=
  ⟨n + 1, x_copy hn h n 0 t (by omega) (fun i hi => by omega) (n + 1) (by omega)⟩
end
section
/-! the reference's walk; our own -/
/-- p may take c in the reference's walk: absent points take 0 -/
def AY (Be : Nat → Int32) (pr : Int32) (p : Nat) (f : Nat → Nat) (c : Nat) : Prop := (bt pr p = true → ∀ q, q < p → bt (Be p) q = true → bt pr q = true → f q ≠ c) ∧ (¬ bt pr p = true → c = 0)
theorem AY_loc (Be : Nat → Int32) (pr : Int32) : ∀ p f f' c, (∀ q, q < p → f q = f' q) → AY Be pr p f c → AY Be pr p f' c := by
  intro p f f' c h a
  refine ⟨fun hp q hq t1 t2 => ?_, a.2⟩
  rw [← h q hq]
  exact a.1 hp q hq t1 t2
theorem AY_tc {Be : Nat → Int32} {pr : Int32} {p c : Nat} {f : Nat → Nat} : AY Be pr p (tc f p) c ↔ AY Be pr p f c := ⟨AY_loc Be pr p _ _ c (fun q hq => tc_l hq), AY_loc Be pr p _ _ c (fun q hq => (tc_l hq).symm)⟩
def CY (Be : Nat → Int32) (pr : Int32) (n k : Nat) : Prop := ∃ f : Nat → Nat, ∀ p, p < n → f p < k ∧ AY Be pr p f (f p)
theorem dy_col (Be : Nat → Int32) (pr : Int32) (n k : Nat) : dl (AY Be pr) k n 0 (fun _ => 0) ≠ [] ↔ CY Be pr n k := by
  constructor
  · intro h
    obtain ⟨f, hf⟩ := List.exists_mem_of_ne_nil _ h
    rw [dl_mem (AY_loc Be pr)] at hf
    exact ⟨f, fun p hp => hf.2 p (by omega) (by omega)⟩
  · rintro ⟨f, hf⟩ e
    have : tc f n ∈ dl (AY Be pr) k n 0 (fun _ => 0) := by
      rw [dl_mem (AY_loc Be pr)]
      refine ⟨fun i hi => tc_g (by omega), fun i _ hi => ?_⟩
      rw [tc_l (by omega)]
      exact ⟨(hf i (by omega)).1, AY_loc Be pr i f _ _ (fun q hq => (tc_l (by omega)).symm) (hf i (by omega)).2⟩
    rw [e] at this
    cases this
theorem y_fits {post : Int32 → Prop} {F at' pr : Int32} {N Be a : Nat → Int32} {f : Nat → Nat} {p c : Nat} (hp : p < 8) (hc : c ≤ 8) (hs : ∀ q, q < p → a q = nI (f q)) (hf : ∀ q, q < p → f q < 8) (ha : a p = nI c) (hpr : bt pr p = true) (h1 : AY Be pr p f c → post 1) (h0 : ¬ AY Be pr p f c → post 0) : ∀ d q, q + d = p → (∀ i, i < q → bt (Be p) i = true → bt pr i = true → f i ≠ c) → ∀ fuel, d < fuel → wY_fits_2 post (nI p) F pr at' N Be a fuel (nI q) := by
  intro d
  induction d with
  | zero =>
    intro q hq hn fuel hfu
    obtain ⟨m, rfl⟩ : ∃ m, fuel = m + 1 := ⟨fuel - 1, by omega⟩
    have e : q = p := by omega
    subst e
    exact br_t (nI_le (Nat.le_refl q) (by omega)) (h1 ⟨fun _ => hn, fun z => absurd hpr z⟩)
  | succ d ih =>
    intro q hq hn fuel hfu
    obtain ⟨m, rfl⟩ : ∃ m, fuel = m + 1 := ⟨fuel - 1, by omega⟩
    have hin : vp_in (nI q) 8 := vp_in_nI (by omega) (by omega)
    have hip : vp_in (nI p) 8 := vp_in_nI (by omega) (by omega)
    have e : a (nI q).toNatClampNeg = nI (f q) := by rw [nI_clamp (by omega), hs q (by omega)]
    have e2 : a (nI p).toNatClampNeg = nI c := by rw [nI_clamp (by omega), ha]
    have hb := hf q (by omega)
    refine br_f (nI_ge (by omega) (by omega)) ⟨hip, cb_br (by omega) (fun b1 => ?_) (fun b1 => ?_)⟩
    · rw [nI_clamp (by omega)] at b1
      refine br_f (by decide) (cb_br (by omega) (fun b2 => ?_) (fun b2 => ?_))
      · refine br_f (by decide) ⟨hin, hip, pk_eq (f q) c (fun eq => h0 (fun z => z.1 hpr q (by omega) b1 b2 eq)) (fun ne => nm_r (nI_1 q) ?_) e e2 (by omega) (by omega)⟩
        refine ih (q + 1) (by omega) (fun i hi t1 t2 => ?_) m (by omega)
        by_cases z : i = q
        · subst z; exact ne
        · exact hn i (by omega) t1 t2
      · refine br_t rfl (nm_r (nI_1 q) ?_)
        refine ih (q + 1) (by omega) (fun i hi t1 t2 => ?_) m (by omega)
        by_cases z : i = q
        · subst z; exact absurd t2 b2
        · exact hn i (by omega) t1 t2
    · rw [nI_clamp (by omega)] at b1
      refine br_t rfl (nm_r (nI_1 q) ?_)
      refine ih (q + 1) (by omega) (fun i hi t1 t2 => ?_) m (by omega)
      by_cases z : i = q
      · subst z; exact absurd t1 b1
      · exact hn i (by omega) t1 t2
theorem y_exit {post : Int32 → SY → Prop} {n : Nat} {pr : Int32} {N Be co : Nat → Int32} {k : Int32} (hn1 : 1 ≤ n) (hn : n ≤ 8) (m : Nat) (x : Int32) (P : post 1 (nI n, pr, nI n, N, Be, co)) : wY_nextColouring_23 post k (nI n) pr (m + 1) x (nI n) N Be co := by
  have P2 : wY_nextColouring_159 post (nI n) pr (nI n) N Be co := br_t rfl P
  exact br_c (fun _ => P2) (fun _ => br_f (nI_pos (by omega)) (br_t (nI_le (Nat.le_refl n) (by omega)) P2))
theorem cb_ne1' : ∀ c, c < 16 → ¬ (-1 : Int32) = nI c := by decide
theorem y_exit0 {post : Int32 → SY → Prop} {n : Nat} {pr : Int32} {N Be co : Nat → Int32} {k : Int32} (hn : n ≤ 8) (m : Nat) (x : Int32) (P : post 0 (nI n, pr, -1, N, Be, co)) : wY_nextColouring_23 post k (nI n) pr (m + 1) x (-1) N Be co := by
  have P2 : wY_nextColouring_159 post (nI n) pr (-1) N Be co := br_f (cb_ne1' n (by omega)) P
  exact br_c (fun _ => P2) (fun _ => br_t (by decide) P2)
/-- one call of the reference's walk, over any measure of its steps -/
theorem y_walk {post : Int32 → SY → Prop} {N Be : Nat → Int32} {pr : Int32} {n k : Nat} (hn1 : 1 ≤ n) (hn : n ≤ 8) (hk1 : 1 ≤ k) (hk : k ≤ 8) (Φ : (Nat → Nat) → Nat → Nat → Nat)
    (ht : ∀ f p c, p < n → c < k → ¬ AY Be pr p f c → Φ f p (c + 1) < Φ f p c)
    (hd : ∀ f p c, p + 1 < n → c < k → AY Be pr p f c → Φ (fu f p c) (p + 1) 0 < Φ f p c)
    (hq : ∀ f p c, p + 1 < n → c ≤ k → (∀ i, c ≤ i → i < k → ¬ AY Be pr (p + 1) f i) → Φ f p (f p + 1) < Φ f (p + 1) c) :
    ∀ (fuel p c step : Nat) (f : Nat → Nat) (co : Nat → Int32), p < n → c ≤ k → (∀ q, q < p → f q < k) → (∀ q, q < p → co q = nI (f q)) → co p + 1 = nI c → (∀ i, p < i → i < n → co i = -1) → step + Φ f p c < 8000000 → Φ f p c + 1 < fuel →
    (rm_ (AY Be pr) k n f p c = [] → ∀ co', post 0 (nI n, pr, -1, N, Be, co')) →
    (∀ h, rm_ (AY Be pr) k n f p c = h :: up_ (AY Be pr) k n h n → (∀ i, i < n → h i < k) → ∀ co' : Nat → Int32, (∀ i, i < n → co' i = nI (h i)) → post 1 (nI n, pr, nI n, N, Be, co')) →
    wY_nextColouring_23 post (nI k) (nI n) pr fuel (nI step) (nI p) N Be co := by
  intro fuel
  induction fuel with
  | zero => intro p c step f co _ _ _ _ _ _ _ h; omega
  | succ m ih =>
    intro p c step f co hp hc hf hs hsp hup hst hfu h0 h1
    have hcl : (nI p).toNatClampNeg = p := nI_clamp (by omega)
    have hin : vp_in (nI p) 8 := vp_in_nI (by omega) (by omega)
    have hcp : upd co p (nI c) (nI p).toNatClampNeg = nI c := by rw [hcl, pk_us]
    have hlow : ∀ q, q < p → upd co p (nI c) q = nI (f q) := fun q h2 => by rw [pk_un (by omega)]; exact hs q h2
    -- downward, or found
    have D : c < k → AY Be pr p f c → wY_nextColouring_143 post (wY_nextColouring_23 post (nI k) (nI n) pr m) (nI k) (nI step) (nI n) pr (nI p) N Be (upd co p (nI c)) := by
      intro hck hA
      refine nm_r (nI_1 p) (nm_r (nI_1 step) ?_)
      by_cases e1 : p + 1 = n
      · obtain ⟨m', rfl⟩ : ∃ m', m = m' + 1 := ⟨m - 1, by omega⟩
        rw [e1]
        have eR := rm_leaf (k := k) e1 hck (AY_tc.mpr hA)
        have eU : rm_ (AY Be pr) k n (fu f p c) p (c + 1) = up_ (AY Be pr) k n (tc (fu f p c) n) n := by
          rw [up_cg (f := tc (fu f p c) n) (f' := fu f p c) n (fun i hi => tc_l hi), ← e1]
          show _ = ds (gg (AY Be pr) k (p + 1) (fu f p c) p) (k - (fu f p c p + 1)) (fu f p c p + 1) ++ up_ (AY Be pr) k (p + 1) (fu f p c) p
          rw [fu_s]
          rfl
        rw [eU] at eR
        refine y_exit hn1 hn m' _ (h1 _ eR (fun i hi => ?_) _ (fun i hi => ?_))
        · rw [tc_l hi]
          by_cases w : i = p
          · subst w; rw [fu_s]; exact hck
          · rw [fu_n w]; exact hf i (by omega)
        · rw [tc_l hi]
          by_cases w : i = p
          · subst w; rw [pk_us, fu_s]
          · rw [pk_un w, fu_n w]; exact hs i (by omega)
      · have eR := rm_down (A := AY Be pr) (k := k) (n := n) (f := f) (p := p) (c := c) (by omega) hck (AY_tc.mpr hA)
        have hlt := hd f p c (by omega) hck hA
        rw [eR] at h0 h1
        refine ih (p + 1) 0 (step + 1) (fu f p c) _ (by omega) (by omega) (fun q h2 => ?_) (fun q h2 => ?_) ?_ (fun i h2 h3 => ?_) (by omega) (by omega) h0 h1
        · by_cases w : q = p
          · subst w; rw [fu_s]; exact hck
          · rw [fu_n w]; exact hf q (by omega)
        · by_cases w : q = p
          · subst w; rw [pk_us, fu_s]
          · rw [pk_un w, fu_n w]; exact hs q (by omega)
        · rw [pk_un (by omega), hup (p + 1) (by omega) (by omega)]; exact cb_m10
        · rw [pk_un (by omega)]; exact hup i (by omega) h3
    -- back
    have B : (∀ i, c ≤ i → i < k → ¬ AY Be pr p f i) → (vp_in (nI p) 8 ∧ ∀ a_colours_39 : Nat → Int32, a_colours_39 = upd (upd co p (nI c)) (nI p).toNatClampNeg (-1) → (∀ f_at_40 : Int32, f_at_40 = nI p - 1 → (∀ x2_41 : Int32, x2_41 = nI step + 1 → (wY_nextColouring_23 post (nI k) (nI n) pr m x2_41 f_at_40 N Be a_colours_39)))) := by
      intro hno
      refine ⟨hin, nm_r (e' := upd (upd co p (nI c)) p (-1)) (by rw [hcl]) ?_⟩
      cases p with
      | zero =>
        obtain ⟨m', rfl⟩ : ∃ m', m = m' + 1 := ⟨m - 1, by omega⟩
        have e := rm_end (k := k) (n := n) (fun i a b z => hno i a b (AY_tc.mp z))
        refine nm_r (e' := -1) (by decide) (nm_e ?_)
        exact y_exit0 hn m' _ (h0 e _)
      | succ q =>
        have e := rm_pop (k := k) (n := n) (fun i a b z => hno i a b (AY_tc.mp z))
        have hlt := hq f q c (by omega) hc hno
        rw [e] at h0 h1
        refine nm_r (nI_pred q) (nm_r (nI_1 step) (ih q (f q + 1) (step + 1) f _ (by omega) (hf q (by omega)) (fun a ha => hf a (by omega)) (fun a ha => ?_) ?_ (fun i h2 h3 => ?_) (by omega) (by omega) h0 h1))
        · rw [pk_un (by omega), pk_un (by omega), hs a (by omega)]
        · rw [pk_un (by omega), pk_un (by omega), hs q (by omega), nI_1]
        · by_cases w : i = q + 1
          · subst w; rw [pk_us]
          · rw [pk_un w, pk_un w]; exact hup i (by omega) h3
    refine br_f (nI_ge (b := 8000000) (by omega) (by decide)) (br_f (nI_pos (by omega)) (br_f (nI_ge (by omega) (by omega)) ⟨hin, hin, nm_r (e' := upd co p (nI c)) (by rw [hcl, hsp]) (cb_br (by omega) (fun hpr => br_f (by decide) ⟨hin, ?_⟩) (fun hpr => br_t rfl ⟨hin, ?_⟩))⟩))
    · refine pk_lt c k (fun lt => cb_br (by omega) (fun _ => br_f (by decide) ⟨p + 1, ?_⟩) (fun z => absurd hpr z)) (fun ge => B (fun i h2 h3 => by omega)) hcp rfl (by omega) (by omega)
      refine y_fits (f := f) (c := c) (by omega) (by omega) hlow (fun q h2 => Nat.lt_of_lt_of_le (hf q h2) hk) pk_us hpr (fun hA => br_f (by decide) (D lt hA)) (fun hA => br_t rfl (nm_r (nI_1 step) ?_)) p 0 (by omega) (fun i hi => by omega) (p + 1) (by omega)
      have eR := rm_skip (A := AY Be pr) (k := k) (n := n) (f := f) (p := p) (c := c) (c' := c + 1) (by omega) (by omega) (fun i a b z => by
        have e : i = c := by omega
        subst e
        exact hA (AY_tc.mp z))
      have hlt := ht f p c hp lt hA
      rw [eR] at h0 h1
      refine ih p (c + 1) (step + 1) f _ hp (by omega) hf hlow ?_ (fun i h2 h3 => ?_) (by omega) (by omega) h0 h1
      · rw [pk_us, nI_1]
      · rw [pk_un (by omega)]; exact hup i h2 h3
    · refine pk_lt c 1 (fun lt => cb_br (by omega) (fun z => absurd z hpr) (fun _ => br_t rfl (D (by omega) ⟨fun z => absurd z hpr, fun _ => by omega⟩))) (fun ge => B (fun i h2 h3 z => by have := z.2 hpr; omega)) hcp rfl (by omega) (by omega)
end
section
/-! the reference's next colouring and least number; our own -/
theorem bY_s : ∀ k, k < 8 → ∀ n, n < 9 → ms (fun _ => k) n 0 < 7999999 := by decide +kernel
/-- with as many colours as points, a walk never runs into a dead end -/
def EX (Be : Nat → Int32) (pr : Int32) (k : Nat) (f : Nat → Nat) (p c : Nat) : Prop := ∃ i, c ≤ i ∧ i < k ∧ AY Be pr p f i
noncomputable def P2 (Be : Nat → Int32) (pr : Int32) (n k : Nat) (f : Nat → Nat) (p c : Nat) : Nat := @ite _ (EX Be pr k f p c) (Classical.propDecidable _) ((k - c) + (n - 1 - p) * (k + 2)) ((k + 1 - c) + p * (k + 2) + n * (k + 2))
theorem P2_t {Be : Nat → Int32} {pr : Int32} {n k : Nat} {f : Nat → Nat} {p c : Nat} (h : EX Be pr k f p c) : P2 Be pr n k f p c = (k - c) + (n - 1 - p) * (k + 2) := if_pos h
theorem P2_f {Be : Nat → Int32} {pr : Int32} {n k : Nat} {f : Nat → Nat} {p c : Nat} (h : ¬ EX Be pr k f p c) : P2 Be pr n k f p c = (k + 1 - c) + p * (k + 2) + n * (k + 2) := if_neg h
theorem EX_0 {Be : Nat → Int32} {pr : Int32} {k : Nat} {f : Nat → Nat} {p : Nat} (h : p < k) : EX Be pr k f p 0 := by
  by_cases z : bt pr p = true
  · obtain ⟨c, hc, hn⟩ := pg_h p f
    exact ⟨c, by omega, by omega, fun _ q hq _ _ => hn q hq, fun w => absurd z w⟩
  · exact ⟨0, by omega, by omega, fun w => absurd w z, fun _ => rfl⟩
theorem P2_try {Be : Nat → Int32} {pr : Int32} {n k : Nat} {f : Nat → Nat} {p c : Nat} (hc : c < k) (hA : ¬ AY Be pr p f c) : P2 Be pr n k f p (c + 1) < P2 Be pr n k f p c := by
  by_cases e : EX Be pr k f p c
  · have e' : EX Be pr k f p (c + 1) := by
      obtain ⟨i, h1, h2, h3⟩ := e
      refine ⟨i, ?_, h2, h3⟩
      by_cases w : i = c
      · subst w; exact absurd h3 hA
      · omega
    rw [P2_t e, P2_t e']
    omega
  · have e' : ¬ EX Be pr k f p (c + 1) := by
      rintro ⟨i, h1, h2, h3⟩
      exact e ⟨i, by omega, h2, h3⟩
    rw [P2_f e, P2_f e']
    omega
theorem P2_down {Be : Nat → Int32} {pr : Int32} {n k : Nat} {f : Nat → Nat} {p c : Nat} (hnk : n ≤ k) (hp : p + 1 < n) (hc : c < k) (hA : AY Be pr p f c) : P2 Be pr n k (fu f p c) (p + 1) 0 < P2 Be pr n k f p c := by
  rw [P2_t (EX_0 (by omega)), P2_t ⟨c, by omega, hc, hA⟩, show n - 1 - p = (n - 1 - (p + 1)) + 1 by omega, Nat.add_mul]
  omega
theorem P2_pop {Be : Nat → Int32} {pr : Int32} {n k : Nat} {f : Nat → Nat} {p c : Nat} (hc : c ≤ k) (hno : ∀ i, c ≤ i → i < k → ¬ AY Be pr (p + 1) f i) : P2 Be pr n k f p (f p + 1) < P2 Be pr n k f (p + 1) c := by
  rw [P2_f (p := p + 1) (fun ⟨i, h1, h2, h3⟩ => hno i h1 h2 h3), Nat.add_mul]
  by_cases e : EX Be pr k f p (f p + 1)
  · rw [P2_t e]
    have : (n - 1 - p) * (k + 2) ≤ n * (k + 2) := Nat.mul_le_mul_right _ (by omega)
    omega
  · rw [P2_f e]
    omega
theorem P2_max {Be : Nat → Int32} {pr : Int32} {n k : Nat} {f : Nat → Nat} {p c : Nat} (hn : n ≤ 8) (hk : k ≤ 8) (hp : p < n) : P2 Be pr n k f p c < 7999999 := by
  have h1 : n * (k + 2) ≤ 8 * 10 := Nat.mul_le_mul hn (by omega)
  have h2 : p * (k + 2) ≤ n * (k + 2) := Nat.mul_le_mul_right _ (by omega)
  have h3 : (n - 1 - p) * (k + 2) ≤ n * (k + 2) := Nat.mul_le_mul_right _ (by omega)
  by_cases e : EX Be pr k f p c
  · rw [P2_t e]; omega
  · rw [P2_f e]; omega
/-- from point p on -/
theorem y_nx {post : Int32 → SY → Prop} {N Be : Nat → Int32} {pr : Int32} {n k : Nat} (hn1 : 1 ≤ n) (hn : n ≤ 8) (hk1 : 1 ≤ k) (hk : k ≤ 8) {p c : Nat} {f : Nat → Nat} {co : Nat → Int32} (hp : p < n) (hc : c ≤ k) (hf : ∀ q, q < p → f q < k) (hs : ∀ q, q < p → co q = nI (f q)) (hsp : co p + 1 = nI c) (hup : ∀ i, p < i → i < n → co i = -1) (h0 : rm_ (AY Be pr) k n f p c = [] → ∀ co', post 0 (nI n, pr, -1, N, Be, co')) (h1 : ∀ h, rm_ (AY Be pr) k n f p c = h :: up_ (AY Be pr) k n h n → (∀ i, i < n → h i < k) → ∀ co' : Nat → Int32, (∀ i, i < n → co' i = nI (h i)) → post 1 (nI n, pr, nI n, N, Be, co')) : ∃ fuel, wY_nextColouring_23 post (nI k) (nI n) pr fuel 0 (nI p) N Be co := by
  refine ⟨8000001, ?_⟩
  by_cases z : k = 8
  · have hb := P2_max (Be := Be) (pr := pr) (f := f) (c := c) hn hk hp
    exact y_walk hn1 hn hk1 hk (P2 Be pr n k) (fun f p c h2 h3 h4 => P2_try h3 h4) (fun f p c h2 h3 h4 => P2_down (by omega) h2 h3 h4) (fun f p c h2 h3 h4 => P2_pop h3 h4) 8000001 p c 0 f co hp hc hf hs hsp hup (by omega) (by omega) h0 h1
  · have hb := mM_max (b := fun _ => k) (f := f) p hp hf c
    have hb2 := bY_s k (by omega) n (by omega)
    exact y_walk hn1 hn hk1 hk (mM (fun _ => k) n) (fun f p c h2 h3 h4 => mM_lt (by omega) (Nat.le_of_lt h3)) (fun f p c h2 h3 h4 => mM_down h2 h3) (fun f p c h2 h3 h4 => mM_pop h3) 8000001 p c 0 f co hp hc hf hs hsp hup (by omega) (by omega) h0 h1
/-- the first call -/
theorem y_n0 {post : Int32 → SY → Prop} {N Be co : Nat → Int32} {pr : Int32} {n k : Nat} (hn1 : 1 ≤ n) (hn : n ≤ 8) (hk1 : 1 ≤ k) (hk : k ≤ 8) (hco : ∀ i, i < 8 → co i = -1) (h0 : dl (AY Be pr) k n 0 (fun _ => 0) = [] → ∀ co', post 0 (nI n, pr, -1, N, Be, co')) (h1 : ∀ h, dl (AY Be pr) k n 0 (fun _ => 0) = h :: up_ (AY Be pr) k n h n → (∀ i, i < n → h i < k) → ∀ co' : Nat → Int32, (∀ i, i < n → co' i = nI (h i)) → post 1 (nI n, pr, nI n, N, Be, co')) : wpY_nextColouring post (nI n, pr, 0, N, Be, co) (nI k) := by
  have e := rm_0 (AY Be pr) k (fun _ => 0) hn1
  rw [← e] at h0 h1
  refine br_f (fun z => ?_) ?_
  · have z2 : nI 0 = nI n := z
    rw [nI_eq (by omega) (by omega)] at z2
    omega
  · exact y_nx (p := 0) (c := 0) (f := fun _ => 0) hn1 hn hk1 hk (by omega) (by omega) (fun q hq => by omega) (fun q hq => by omega) (by rw [hco 0 (by omega)]; exact cb_m10) (fun i h2 h3 => hco i (by omega)) h0 h1
/-- a later call -/
theorem y_n1 {post : Int32 → SY → Prop} {N Be co : Nat → Int32} {pr : Int32} {n k : Nat} (hn1 : 1 ≤ n) (hn : n ≤ 8) (hk1 : 1 ≤ k) (hk : k ≤ 8) {g : Nat → Nat} (hg : ∀ i, i < n → g i < k) (hco : ∀ i, i < n → co i = nI (g i)) (h0 : up_ (AY Be pr) k n g n = [] → ∀ co', post 0 (nI n, pr, -1, N, Be, co')) (h1 : ∀ h, up_ (AY Be pr) k n g n = h :: up_ (AY Be pr) k n h n → (∀ i, i < n → h i < k) → ∀ co' : Nat → Int32, (∀ i, i < n → co' i = nI (h i)) → post 1 (nI n, pr, nI n, N, Be, co')) : wpY_nextColouring post (nI n, pr, nI n, N, Be, co) (nI k) := by
  obtain ⟨m, rfl⟩ : ∃ m, n = m + 1 := ⟨n - 1, by omega⟩
  have hgm := hg m (by omega)
  refine br_t rfl (nm_r (nI_pred m) ?_)
  exact y_nx (p := m) (c := g m + 1) (f := g) hn1 hn hk1 hk (by omega) (by omega) (fun q hq => hg q (by omega)) (fun q hq => hco q (by omega)) (by rw [hco m (by omega), nI_1]) (fun i h2 h3 => by omega) h0 h1
theorem y_bg {post : SY → Prop} {F pr at' : Int32} {N Be : Nat → Int32} (h : ∀ co' : Nat → Int32, (∀ i, i < 8 → co' i = -1) → post (F, pr, at', N, Be, co')) : ∀ (d p : Nat) (co : Nat → Int32), p + d = 8 → (∀ i, i < p → co i = -1) → ∀ fuel, d < fuel → wY_begin_7 post F pr at' fuel (nI p) N Be co := by
  intro d
  induction d with
  | zero =>
    intro p co hp hc fuel hfu
    obtain ⟨m, rfl⟩ : ∃ m, fuel = m + 1 := ⟨fuel - 1, by omega⟩
    exact br_t (nI_le (a := 8) (by omega) (by omega)) (h co (fun i hi => hc i (by omega)))
  | succ d ih =>
    intro p co hp hc fuel hfu
    obtain ⟨m, rfl⟩ : ∃ m, fuel = m + 1 := ⟨fuel - 1, by omega⟩
    refine br_f (nI_ge (b := 8) (by omega) (by omega)) ⟨vp_in_nI (by omega) (by omega), nm_r (e' := upd co p (-1)) (by rw [nI_clamp (by omega)]) (nm_r (nI_1 p) (ih (p + 1) _ (by omega) (fun i hi => ?_) m (by omega)))⟩
    by_cases e : i = p
    · subst e; rw [pk_us]
    · rw [pk_un e]; exact hc i (by omega)
theorem y_begin {post : SY → Prop} {F pr at' : Int32} {N Be co : Nat → Int32} (h : ∀ co' : Nat → Int32, (∀ i, i < 8 → co' i = -1) → post (F, pr, 0, N, Be, co')) : wpY_begin post (F, pr, at', N, Be, co) :=
  ⟨9, y_bg h 8 0 co (by omega) (fun i hi => by omega) 9 (by omega)⟩
/-- fewest answers the least number, and leaves the first colouring -/
theorem y_fl {post : Int32 → SY → Prop} {N Be : Nat → Int32} {pr : Int32} {n x : Nat} (hn1 : 1 ≤ n) (hn : n ≤ 8) (hx8 : x ≤ 8) (hx : Chi (CY Be pr n) x) (h : ∀ (co' : Nat → Int32) (h : Nat → Nat), dl (AY Be pr) x n 0 (fun _ => 0) = h :: up_ (AY Be pr) x n h n → (∀ i, i < n → h i < x) → (∀ i, i < n → co' i = nI (h i)) → post (nI x) (nI n, pr, nI n, N, Be, co')) : ∀ (d k : Nat) (at' : Int32) (co : Nat → Int32), 1 ≤ k → k + d = x → ∀ fuel, d < fuel → wY_fewest_11 post fuel (nI k) (nI n) pr at' N Be co := by
  obtain ⟨x1, x2, x3⟩ := hx
  intro d
  induction d with
  | zero =>
    intro k at' co hk1 hkx fuel hfu
    obtain ⟨m, rfl⟩ : ∃ m, fuel = m + 1 := ⟨fuel - 1, by omega⟩
    have e : k = x := by omega
    subst e
    refine br_f (nI_nlt (a := 8) (by omega) (by omega)) (y_begin (fun co1 hco1 => ?_))
    refine y_n0 hn1 hn hk1 hx8 hco1 (fun z co' => ?_) (fun h' e1 hb co' hsh => ?_)
    · exact absurd z ((dy_col _ _ _ _).mpr x2)
    · exact br_f (by decide) (h co' h' e1 hb hsh)
  | succ d ih =>
    intro k at' co hk1 hkx fuel hfu
    obtain ⟨m, rfl⟩ : ∃ m, fuel = m + 1 := ⟨fuel - 1, by omega⟩
    have e0 : dl (AY Be pr) k n 0 (fun _ => 0) = [] := by
      apply Classical.byContradiction
      intro z
      exact x3 k hk1 (by omega) ((dy_col _ _ _ _).mp z)
    refine br_f (nI_nlt (a := 8) (by omega) (by omega)) (y_begin (fun co1 hco1 => ?_))
    refine y_n0 hn1 hn hk1 (by omega) hco1 (fun z co' => ?_) (fun h' e1 hb co' hsh => ?_)
    · exact br_t rfl (nm_r (nI_1 k) (ih (k + 1) _ _ (by omega) (by omega) m (by omega)))
    · rw [e0] at e1
      cases e1
theorem y_few {post : Int32 → SY → Prop} {N Be co : Nat → Int32} {pr at' : Int32} {n x : Nat} (hn1 : 1 ≤ n) (hn : n ≤ 8) (hpr : ¬ pr = 0) (hx8 : x ≤ 8) (hx : Chi (CY Be pr n) x) (h : ∀ (co' : Nat → Int32) (h : Nat → Nat), dl (AY Be pr) x n 0 (fun _ => 0) = h :: up_ (AY Be pr) x n h n → (∀ i, i < n → h i < x) → (∀ i, i < n → co' i = nI (h i)) → post (nI x) (nI n, pr, nI n, N, Be, co')) : wpY_fewest post (nI n, pr, at', N, Be, co) :=
  br_f hpr ⟨x + 1, y_fl hn1 hn hx8 hx h (x - 1) 1 at' co (by omega) (by have := hx.1; omega) (x + 1) (by omega)⟩
theorem y_cl {post : SY → Prop} {N co : Nat → Int32} {n : Nat} {S pr at' : Int32} (hn : n ≤ 8) (h : ∀ b : Nat → Int32, (∀ i, i < n → b i = N i &&& S) → post (nI n, pr, at', N, b, co)) : ∀ (d p : Nat) (b : Nat → Int32), p + d = n → (∀ i, i < p → b i = N i &&& S) → ∀ fuel, d < fuel → wY_copy_7 post S (nI n) pr at' fuel (nI p) N b co := by
  intro d
  induction d with
  | zero =>
    intro p b hp ht fuel hfu
    obtain ⟨m, rfl⟩ : ∃ m, fuel = m + 1 := ⟨fuel - 1, by omega⟩
    exact br_t (nI_le (by omega) (by omega)) (h b (fun i hi => ht i (by omega)))
  | succ d ih =>
    intro p b hp ht fuel hfu
    obtain ⟨m, rfl⟩ : ∃ m, fuel = m + 1 := ⟨fuel - 1, by omega⟩
    have hin : vp_in (nI p) 8 := vp_in_nI (by omega) (by omega)
    refine br_f (nI_ge (by omega) (by omega)) ⟨hin, hin, nm_r (e' := upd b p (N p &&& S)) (by rw [nI_clamp (by omega)]) (nm_r (nI_1 p) (ih (p + 1) _ (by omega) (fun i hi => ?_) m (by omega)))⟩
    by_cases e : i = p
    · subst e; rw [pk_us]
    · rw [pk_un e]; exact ht i (by omega)
theorem y_cp {post : SY → Prop} {N Be co : Nat → Int32} {n : Nat} {S pr at' : Int32} (hn : n ≤ 8) (h : ∀ b : Nat → Int32, (∀ i, i < n → b i = N i &&& S) → post (nI n, S, at', N, b, co)) : wpY_copy post (nI n, pr, at', N, Be, co) S :=
  ⟨n + 1, y_cl hn h n 0 Be (by omega) (fun i hi => by omega) (n + 1) (by omega)⟩
theorem y_cpA {post : SY → Prop} {N Be co : Nat → Int32} {n : Nat} {pr at' : Int32} (hn : n ≤ 8) (h : ∀ b : Nat → Int32, (∀ i, i < n → b i = N i &&& (((1 : Int32) <<< (nI n &&& 31)) - 1)) → post (nI n, ((1 : Int32) <<< (nI n &&& 31)) - 1, at', N, b, co)) : wpY_copyAll post (nI n, pr, at', N, Be, co) :=
  y_cp (pr := pr) (Be := Be) (post := fun u => match u with | (f_n_9, f_present_10, f_at_11, a_near_12, a_beside_13, a_colours_14) => (post (f_n_9, f_present_10, f_at_11, a_near_12, a_beside_13, a_colours_14))) hn h
end
section
/-! the relation; points, join, turn; our own -/
/-- no point is joined to itself, and links go both ways -/
def Gr (n : Nat) (L : Nat → Int32) : Prop := (∀ p, p < n → ¬ bt (L p) p = true) ∧ (∀ p q, p < n → q < n → (bt (L p) q = true ↔ bt (L q) p = true))
/-- the same points, the same links -/
def i_Rel (_ : Nat) (u : SX) (v : SY) : Prop := ∃ (n : Nat) (L t sh : Nat → Int32) (pr a : Int32) (Be co : Nat → Int32), 1 ≤ n ∧ n ≤ 8 ∧ Gr n L ∧ u = (nI n, L, t, sh) ∧ v = (nI n, pr, a, L, Be, co)
theorem i_up {k : Nat} {u : SX} {v : SY} (h : i_Rel k u v) : i_Rel (k + 4) u v := h
theorem rl_mk {k n : Nat} {L t sh : Nat → Int32} {pr a : Int32} {Be co : Nat → Int32} (h1 : 1 ≤ n) (h8 : n ≤ 8) (hG : Gr n L) : i_Rel k (nI n, L, t, sh) (nI n, pr, a, L, Be, co) := ⟨n, L, t, sh, pr, a, Be, co, h1, h8, hG, rfl, rfl⟩
theorem i_vc0 (k0 : Int32) : wpX_init (fun u => wpY_init (fun v => i_Rel 1 u v) k0) k0 := by
  have g : ∀ n, Gr n (fun _ => 0) := fun n => ⟨fun p _ z => (by rw [b_0] at z; cases z), fun p q _ _ => (by rw [b_0, b_0])⟩
  by_cases h1 : 1 ≤ k0
  · by_cases h8 : k0 ≤ 8
    · have hn : ¬ k0 < 0 := by
        intro z
        have := Int32.lt_of_lt_of_le z (Int32.le_trans (by decide : (0 : Int32) ≤ 1) h1)
        exact absurd this (Int32.lt_irrefl)
      obtain ⟨j, hj, rfl⟩ := nI_of2 (n := 8) (M := 8) (by decide) hn h8
      have hj1 : 1 ≤ j := by
        have : nI 1 ≤ nI j := h1
        rw [nI_leI (by omega) (by omega)] at this
        exact this
      exact br_t h1 (br_t h8 (br_t h1 (br_t h8 (rl_mk hj1 hj (g j)))))
    · exact br_t h1 (br_f h8 (br_t h1 (br_f h8 (rl_mk (n := 8) (by omega) (by omega) (g 8)))))
  · exact br_f h1 (br_f h1 (rl_mk (n := 1) (by omega) (by omega) (g 1)))
/-- x names no point -/
def nP (n : Nat) (x : Int32) : Prop := x < 0 ∨ nI n ≤ x
theorem pt_c {n : Nat} (x : Int32) (hn : n ≤ 8) : nP n x ∨ ∃ j, j < n ∧ x = nI j := by
  rcases pk_ix x (n := n) (by omega) with h | h | h
  · exact Or.inl (Or.inl h)
  · exact Or.inl (Or.inr h)
  · exact Or.inr h
theorem x_pt0 {post : Int32 → Prop} {n : Nat} {L t sh : Nat → Int32} {x : Int32} (h : nP n x) (P : post 0) : wpX_isPoint post (nI n, L, t, sh) x := by
  by_cases z : x < 0
  · exact br_t z P
  · rcases h with h | h
    · exact absurd h z
    · exact br_f z (br_t h P)
theorem x_pt1 {post : Int32 → Prop} {n j : Nat} {L t sh : Nat → Int32} (hn : n ≤ 8) (h : j < n) (P : post 1) : wpX_isPoint post (nI n, L, t, sh) (nI j) :=
  br_f (nI_pos (by omega)) (br_f (nI_ge h (by omega)) P)
theorem y_pt0 {post : Int32 → Prop} {n : Nat} {pr a : Int32} {N Be co : Nat → Int32} {x : Int32} (h : nP n x) (P : post 0) : wpY_isPoint post (nI n, pr, a, N, Be, co) x := by
  by_cases z : x < 0
  · exact br_t z P
  · rcases h with h | h
    · exact absurd h z
    · exact br_f z (br_t h P)
theorem y_pt1 {post : Int32 → Prop} {n j : Nat} {pr a : Int32} {N Be co : Nat → Int32} (hn : n ≤ 8) (h : j < n) (P : post 1) : wpY_isPoint post (nI n, pr, a, N, Be, co) (nI j) :=
  br_f (nI_pos (by omega)) (br_f (nI_ge h (by omega)) P)
theorem x_pr0 {post : Int32 → Prop} {n : Nat} {L t sh : Nat → Int32} {x y : Int32} (hn : n ≤ 8) (h : nP n x ∨ nP n y) (P : post 0) : wpX_isPair post (nI n, L, t, sh) x y := by
  unfold wpX_isPair
  rcases pt_c x hn with hx | ⟨i, hi, rfl⟩
  · exact x_pt0 hx (br_t rfl P)
  · rcases h with h | h
    · exact x_pt0 h (br_t rfl P)
    · exact x_pt1 hn hi (br_f (by decide) (x_pt0 h (br_t rfl P)))
theorem x_pr1 {post : Int32 → Prop} {n i j : Nat} {L t sh : Nat → Int32} (hn : n ≤ 8) (hi : i < n) (hj : j < n) (P0 : i = j → post 0) (P1 : i ≠ j → post 1) : wpX_isPair post (nI n, L, t, sh) (nI i) (nI j) := by
  unfold wpX_isPair
  exact x_pt1 hn hi (br_f (by decide) (x_pt1 hn hj (br_f (by decide) (pk_eq i j P0 P1))))
/-- the link of i and j taken away; put in -/
def jc (L : Nat → Int32) (i j : Nat) : Nat → Int32 := upd (upd L i (L i &&& (((1 : Int32) <<< (nI j &&& 31)) ^^^ (-1)))) j ((upd L i (L i &&& (((1 : Int32) <<< (nI j &&& 31)) ^^^ (-1)))) j &&& (((1 : Int32) <<< (nI i &&& 31)) ^^^ (-1)))
def js (L : Nat → Int32) (i j : Nat) : Nat → Int32 := upd (upd L i (L i ||| ((1 : Int32) <<< (nI j &&& 31)))) j ((upd L i (L i ||| ((1 : Int32) <<< (nI j &&& 31)))) j ||| ((1 : Int32) <<< (nI i &&& 31)))
theorem jc_b {L : Nat → Int32} {i j p q : Nat} (hi : i < 8) (hj : j < 8) (hq : q < 32) : bt (jc L i j p) q = true ↔ bt (L p) q = true ∧ ¬ ((p = i ∧ q = j) ∨ (p = j ∧ q = i)) := by
  unfold jc
  by_cases e : p = j
  · subst e
    rw [pk_us, cb_clr _ _ _ hi hq]
    by_cases e2 : p = i
    · subst e2
      rw [pk_us, cb_clr _ _ _ hj hq]
      by_cases e3 : q = p <;> simp [e3]
    · rw [pk_un e2]
      by_cases e3 : q = i <;> simp [e3, e2]
  · rw [pk_un e]
    by_cases e2 : p = i
    · subst e2
      rw [pk_us, cb_clr _ _ _ hj hq]
      by_cases e3 : q = j <;> simp [e3, e]
    · rw [pk_un e2]
      simp [e, e2]
theorem js_b {L : Nat → Int32} {i j p q : Nat} (hi : i < 8) (hj : j < 8) (hq : q < 32) : bt (js L i j p) q = true ↔ bt (L p) q = true ∨ ((p = i ∧ q = j) ∨ (p = j ∧ q = i)) := by
  unfold js
  by_cases e : p = j
  · subst e
    rw [pk_us, cb_set _ _ _ hi hq]
    by_cases e2 : p = i
    · subst e2
      rw [pk_us, cb_set _ _ _ hj hq]
      by_cases e3 : q = p <;> simp [e3]
    · rw [pk_un e2]
      by_cases e3 : q = i <;> simp [e3, e2]
  · rw [pk_un e]
    by_cases e2 : p = i
    · subst e2
      rw [pk_us, cb_set _ _ _ hj hq]
      by_cases e3 : q = j <;> simp [e3, e]
    · rw [pk_un e2]
      simp [e, e2]
theorem Gr_jc {n i j : Nat} {L : Nat → Int32} (hn : n ≤ 8) (hi : i < n) (hj : j < n) (h : Gr n L) : Gr n (jc L i j) := by
  refine ⟨fun p hp z => ?_, fun p q hp hq => ?_⟩
  · rw [jc_b (by omega) (by omega) (by omega)] at z
    exact h.1 p hp z.1
  · rw [jc_b (by omega) (by omega) (by omega), jc_b (by omega) (by omega) (by omega), h.2 p q hp hq]
    refine and_congr Iff.rfl (not_congr ?_)
    omega
theorem Gr_js {n i j : Nat} {L : Nat → Int32} (hn : n ≤ 8) (hi : i < n) (hj : j < n) (hij : i ≠ j) (h : Gr n L) : Gr n (js L i j) := by
  refine ⟨fun p hp z => ?_, fun p q hp hq => ?_⟩
  · rw [js_b (by omega) (by omega) (by omega)] at z
    rcases z with z | z
    · exact h.1 p hp z
    · omega
  · rw [js_b (by omega) (by omega) (by omega), js_b (by omega) (by omega) (by omega), h.2 p q hp hq]
    refine or_congr Iff.rfl ?_
    omega
/-- the reference's put -/
theorem y_put0 {post : SY → Prop} {n i j : Nat} {pr a : Int32} {L Be co : Nat → Int32} (hn : n ≤ 8) (hi : i < n) (hj : j < n) (P : post (nI n, pr, a, jc L i j, Be, co)) : wpY_put post (nI n, pr, a, L, Be, co) (nI i) (nI j) 0 := by
  have ii := cb_in hi hn
  have ij := cb_in hj hn
  refine br_t rfl ⟨ii, ii, nm_r (e' := upd L i (L i &&& (((1 : Int32) <<< (nI j &&& 31)) ^^^ (-1)))) (by rw [nI_clamp (by omega)]) (br_t rfl ⟨ij, ij, nm_r (e' := jc L i j) (by rw [nI_clamp (by omega)]; rfl) P⟩)⟩
theorem y_put1 {post : SY → Prop} {n i j : Nat} {pr a x : Int32} {L Be co : Nat → Int32} (hx : ¬ x = 0) (hn : n ≤ 8) (hi : i < n) (hj : j < n) (P : post (nI n, pr, a, js L i j, Be, co)) : wpY_put post (nI n, pr, a, L, Be, co) (nI i) (nI j) x := by
  have ii := cb_in hi hn
  have ij := cb_in hj hn
  refine br_f hx ⟨ii, ii, nm_r (e' := upd L i (L i ||| ((1 : Int32) <<< (nI j &&& 31)))) (by rw [nI_clamp (by omega)]) (br_f hx ⟨ij, ij, nm_r (e' := js L i j) (by rw [nI_clamp (by omega)]; rfl) P⟩)⟩
theorem i_vc_join {k : Nat} {u : SX} {v : SY} (I : i_Rel k u v) (hk : k + 4 ≤ 2049) (v1 : Int32) (v2 : Int32) (v3 : Int32) : wpX_join (fun r u' => wpY_join (fun r' v' => r' = r ∧ i_Rel (k + 4) u' v') v v1 v2 (lw_bz v3)) u v1 v2 (lw_bz v3) := by
  obtain ⟨n, L, t, sh, pr, a, Be, co, h1, h8, hG, rfl, rfl⟩ := I
  have R0 : i_Rel (k + 4) (nI n, L, t, sh) (nI n, pr, a, L, Be, co) := rl_mk h1 h8 hG
  unfold wpX_join
  rcases pt_c v1 h8 with hx | ⟨i, hi, rfl⟩
  · refine x_pr0 h8 (Or.inl hx) (br_t rfl ?_)
    unfold wpY_join
    exact y_pt0 hx (br_t rfl ⟨rfl, R0⟩)
  · rcases pt_c v2 h8 with hx | ⟨j, hj, rfl⟩
    · refine x_pr0 h8 (Or.inr hx) (br_t rfl ?_)
      unfold wpY_join
      exact y_pt1 h8 hi (br_f (by decide) (y_pt0 hx (br_t rfl ⟨rfl, R0⟩)))
    · refine x_pr1 h8 hi hj (fun e => br_t rfl ?_) (fun e => br_f (by decide) ?_)
      · unfold wpY_join
        exact y_pt1 h8 hi (br_f (by decide) (y_pt1 h8 hj (br_f (by decide) (br_t (by rw [e]) ⟨rfl, R0⟩))))
      · have ii := cb_in hi h8
        have ij := cb_in hj h8
        have ne : ¬ nI i = nI j := by rw [nI_eq (by omega) (by omega)]; exact e
        by_cases z : lw_bz v3 = 0
        · rw [z]
          refine br_t rfl ⟨ii, ii, nm_r (e' := upd L i (L i &&& (((1 : Int32) <<< (nI j &&& 31)) ^^^ (-1)))) (by rw [nI_clamp (by omega)]) ⟨ij, ij, nm_r (e' := jc L i j) (by rw [nI_clamp (by omega)]; rfl) ?_⟩⟩
          unfold wpY_join
          exact y_pt1 h8 hi (br_f (by decide) (y_pt1 h8 hj (br_f (by decide) (br_f ne (y_put0 h8 hi hj ⟨rfl, rl_mk h1 h8 (Gr_jc h8 hi hj hG)⟩)))))
        · refine br_f z ⟨ii, ii, nm_r (e' := upd L i (L i ||| ((1 : Int32) <<< (nI j &&& 31)))) (by rw [nI_clamp (by omega)]) ⟨ij, ij, nm_r (e' := js L i j) (by rw [nI_clamp (by omega)]; rfl) ?_⟩⟩
          unfold wpY_join
          exact y_pt1 h8 hi (br_f (by decide) (y_pt1 h8 hj (br_f (by decide) (br_f ne (y_put1 z h8 hi hj ⟨rfl, rl_mk h1 h8 (Gr_js h8 hi hj e hG)⟩)))))
/-- turn, row by row -/
def tnv (n p : Nat) (x : Int32) : Int32 := ((((1 : Int32) <<< (nI n &&& 31)) - 1) &&& (x ^^^ (-1))) &&& (((1 : Int32) <<< (nI p &&& 31)) ^^^ (-1))
def tn (n : Nat) (L : Nat → Int32) : Nat → (Nat → Int32)
  | 0 => L
  | p + 1 => upd (tn n L p) p (tnv n p (tn n L p p))
theorem tn_v {n : Nat} {L : Nat → Int32} : ∀ p i, tn n L p i = if i < p then tnv n i (L i) else L i := by
  intro p
  induction p with
  | zero => intro i; rw [if_neg (by omega)]; rfl
  | succ p ih =>
    intro i
    show upd (tn n L p) p (tnv n p (tn n L p p)) i = _
    by_cases e : i = p
    · subst e
      rw [pk_us, ih i, if_neg (by omega), if_pos (by omega)]
    · rw [pk_un e, ih i]
      by_cases z : i < p
      · rw [if_pos z, if_pos (by omega)]
      · rw [if_neg z, if_neg (by omega)]
theorem Gr_tn {n : Nat} {L : Nat → Int32} (hn : n ≤ 8) (h : Gr n L) : Gr n (tn n L n) := by
  have hb : ∀ p q, p < n → q < n → (bt (tn n L n p) q = true ↔ (¬ bt (L p) q = true ∧ ¬ q = p)) := by
    intro p q hp hq
    rw [tn_v, if_pos hp, tnv, cb_clr _ _ _ (by omega) (by omega), b_and, cb_all n (by omega) q (by omega), cb_not _ _ (by omega)]
    simp [hq]
  refine ⟨fun p hp z => ?_, fun p q hp hq => ?_⟩
  · exact ((hb p p hp hp).mp z).2 rfl
  · rw [hb p q hp hq, hb q p hq hp, h.2 p q hp hq]
    refine and_congr Iff.rfl ?_
    omega
theorem x_tn {post : SX → Prop} {n : Nat} {L t sh : Nat → Int32} (hn : n ≤ 8) (P : post (nI n, tn n L n, t, sh)) : ∀ d p, p + d = n → ∀ fuel, d < fuel → wX_turn_11 post (((1 : Int32) <<< (nI n &&& 31)) - 1) (nI n) fuel (nI p) (tn n L p) t sh := by
  intro d
  induction d with
  | zero =>
    intro p hp fuel hfu
    obtain ⟨m, rfl⟩ : ∃ m, fuel = m + 1 := ⟨fuel - 1, by omega⟩
    have e : p = n := by omega
    subst e
    exact br_t (nI_le (Nat.le_refl _) (by omega)) P
  | succ d ih =>
    intro p hp fuel hfu
    obtain ⟨m, rfl⟩ : ∃ m, fuel = m + 1 := ⟨fuel - 1, by omega⟩
    have ii : vp_in (nI p) 8 := vp_in_nI (by omega) (by omega)
    exact br_f (nI_ge (by omega) (by omega)) ⟨ii, ii, nm_r (e' := tn n L (p + 1)) (by rw [nI_clamp (by omega)]; rfl) (nm_r (nI_1 p) (ih (p + 1) (by omega) m (by omega)))⟩
theorem y_tn {post : SY → Prop} {n : Nat} {pr a : Int32} {L Be co : Nat → Int32} (hn : n ≤ 8) (P : post (nI n, pr, a, tn n L n, Be, co)) : ∀ d p, p + d = n → ∀ fuel, d < fuel → wY_turn_2 post (nI n) pr a fuel (nI p) (tn n L p) Be co := by
  intro d
  induction d with
  | zero =>
    intro p hp fuel hfu
    obtain ⟨m, rfl⟩ : ∃ m, fuel = m + 1 := ⟨fuel - 1, by omega⟩
    have e : p = n := by omega
    subst e
    exact br_t (nI_le (Nat.le_refl _) (by omega)) P
  | succ d ih =>
    intro p hp fuel hfu
    obtain ⟨m, rfl⟩ : ∃ m, fuel = m + 1 := ⟨fuel - 1, by omega⟩
    have ii : vp_in (nI p) 8 := vp_in_nI (by omega) (by omega)
    exact br_f (nI_ge (by omega) (by omega)) ⟨ii, ii, nm_r (e' := tn n L (p + 1)) (by rw [nI_clamp (by omega)]; rfl) (nm_r (nI_1 p) (ih (p + 1) (by omega) m (by omega)))⟩
theorem i_vc_turn {k : Nat} {u : SX} {v : SY} (I : i_Rel k u v) (hk : k + 4 ≤ 2049) : wpX_turn (fun u' => wpY_turn (fun v' => i_Rel (k + 4) u' v') v) u := by
  obtain ⟨n, L, t, sh, pr, a, Be, co, h1, h8, hG, rfl, rfl⟩ := I
  have R1 : i_Rel (k + 4) (nI n, tn n L n, t, sh) (nI n, pr, a, tn n L n, Be, co) := rl_mk h1 h8 (Gr_tn h8 hG)
  exact nm_e ⟨n + 1, x_tn (L := L) h8 ⟨n + 1, y_tn (L := L) h8 R1 n 0 (by omega) (n + 1) (by omega)⟩ n 0 (by omega) (n + 1) (by omega)⟩
end
section
/-! clique, cliqueSet, free; our own -/
/-- how many of the first p bits x has -/
def pc (x : Int32) : Nat → Nat
  | 0 => 0
  | p + 1 => pc x p + (if bt x p = true then 1 else 0)
theorem pc_le (x : Int32) : ∀ p, pc x p ≤ p := by
  intro p
  induction p with
  | zero => exact Nat.le_refl 0
  | succ p ih =>
    show pc x p + (if bt x p = true then 1 else 0) ≤ p + 1
    split <;> omega
theorem pc_00 : pc (nI 0) 8 = 0 := by decide +kernel
theorem cb_val (x : Int32) (q : Nat) (hq : q < 32) : ((x >>> (nI q &&& 31)) &&& 1) = nI (if bt x q = true then 1 else 0) := by
  by_cases h : bt x q = true
  · rw [if_pos h]
    exact (cb_bit x q hq).mpr h
  · rw [if_neg h, nI_0, cb_zero]
    intro i hi
    rw [b_and, cb_1 i hi, b_sshr q hq x hi]
    by_cases e : i = 0
    · subst e
      simp [hq, cb_bf h]
    · simp [e]
theorem nI_bt (s i : Nat) (hi : i < 32) : bt (nI s) i = s.testBit i := by
  show (BitVec.ofNat 32 s).getLsbD i = _
  rw [BitVec.getLsbD_ofNat]
  simp [hi]
theorem nI_hi {s n i : Nat} (hs : s < 2 ^ n) (hi : n ≤ i) (hi2 : i < 32) : bt (nI s) i = false := by
  rw [nI_bt s i hi2]
  exact Nat.testBit_lt_two_pow (Nat.lt_of_lt_of_le hs (Nat.pow_le_pow_right (by omega) hi))
theorem pc_n {s n : Nat} (hs : s < 2 ^ n) (hn : n ≤ 8) : pc (nI s) 8 = pc (nI s) n := by
  have h : ∀ d, n + d ≤ 8 → pc (nI s) (n + d) = pc (nI s) n := by
    intro d
    induction d with
    | zero => intro _; rfl
    | succ d ih =>
      intro hd
      show pc (nI s) (n + d) + (if bt (nI s) (n + d) = true then 1 else 0) = _
      rw [nI_hi hs (by omega) (by omega), if_neg (by decide), ih (by omega)]
      exact Nat.add_zero _
  have := h (8 - n) (by omega)
  rw [show n + (8 - n) = 8 by omega] at this
  exact this
theorem x_sz {post : Int32 → Prop} {x : Int32} (P : post (nI (pc x 8))) : wpX_sizeOf post x := by
  have h : ∀ d p, p + d = 8 → ∀ fuel, d < fuel → wX_sizeOf_4 post x fuel (nI (pc x p)) (nI p) := by
    intro d
    induction d with
    | zero =>
      intro p hp fuel hfu
      obtain ⟨m, rfl⟩ : ∃ m, fuel = m + 1 := ⟨fuel - 1, by omega⟩
      have e : p = 8 := by omega
      subst e
      exact br_t (by decide) P
    | succ d ih =>
      intro p hp fuel hfu
      obtain ⟨m, rfl⟩ : ∃ m, fuel = m + 1 := ⟨fuel - 1, by omega⟩
      exact br_f (nI_ge (b := 8) (by omega) (by omega)) (nm_r (e' := nI (pc x (p + 1))) (by rw [cb_val x p (by omega), nI_add]; rfl) (nm_r (nI_1 p) (ih (p + 1) (by omega) m (by omega))))
  exact ⟨9, h 8 0 (by omega) 9 (by omega)⟩
theorem y_sz {post : Int32 → Prop} {n : Nat} {pr a : Int32} {L Be co : Nat → Int32} {x : Int32} (hn : n ≤ 8) (P : post (nI (pc x n))) : wpY_sizeOf post (nI n, pr, a, L, Be, co) x := by
  have h : ∀ d p, p + d = n → ∀ fuel, d < fuel → wY_sizeOf_4 post x (nI n) pr a L Be co fuel (nI (pc x p)) (nI p) := by
    intro d
    induction d with
    | zero =>
      intro p hp fuel hfu
      obtain ⟨m, rfl⟩ : ∃ m, fuel = m + 1 := ⟨fuel - 1, by omega⟩
      have e : p = n := by omega
      subst e
      exact br_t (nI_le (Nat.le_refl _) (by omega)) P
    | succ d ih =>
      intro p hp fuel hfu
      obtain ⟨m, rfl⟩ : ∃ m, fuel = m + 1 := ⟨fuel - 1, by omega⟩
      have hr := ih (p + 1) (by omega) m (by omega)
      refine br_f (nI_ge (by omega) (by omega)) (cb_br (by omega) (fun b => br_f (by decide) (nm_r (nI_1 _) (nm_r (nI_1 p) ?_))) (fun b => br_t rfl (nm_r (nI_1 p) ?_)))
      · rw [show pc x (p + 1) = pc x p + 1 by show pc x p + (if bt x p = true then 1 else 0) = _; rw [if_pos b]] at hr
        exact hr
      · rw [show pc x (p + 1) = pc x p by show pc x p + (if bt x p = true then 1 else 0) = _; rw [if_neg b]; rfl] at hr
        exact hr
  exact ⟨n + 1, h n 0 (by omega) (n + 1) (by omega)⟩
/-- the points of x are all joined; none is -/
def Cq (L : Nat → Int32) (n : Nat) (x : Int32) : Prop := ∀ p, p < n → bt x p = true → (x &&& (((1 : Int32) <<< (nI p &&& 31)) ^^^ (-1))) &&& (L p ^^^ (-1)) = 0
def Fq (L : Nat → Int32) (n : Nat) (x : Int32) : Prop := ∀ p, p < n → bt x p = true → x &&& L p = 0
theorem cq_e {L : Nat → Int32} {x : Int32} {p : Nat} (hp : p < 8) (hL : ¬ bt (L p) p = true) (hx : bt x p = true) : x &&& (L p ^^^ (-1)) = (1 : Int32) <<< (nI p &&& 31) ↔ (x &&& (((1 : Int32) <<< (nI p &&& 31)) ^^^ (-1))) &&& (L p ^^^ (-1)) = 0 := by
  rw [cb_zero]
  constructor
  · intro h i hi
    have e : bt (x &&& (L p ^^^ (-1))) i = bt ((1 : Int32) <<< (nI p &&& 31)) i := by rw [h]
    rw [b_and, cb_not _ _ hi, cb_sh1 p hp i hi] at e
    rw [b_and, cb_clr _ _ _ hp hi, cb_not _ _ hi]
    by_cases z : i = p
    · simp [z]
    · rw [decide_eq_false z] at e ⊢
      rw [Bool.not_false, Bool.and_true]
      exact e
  · intro h
    apply b_ext
    intro i hi
    have e := h i hi
    rw [b_and, cb_clr _ _ _ hp hi, cb_not _ _ hi] at e
    rw [b_and, cb_not _ _ hi, cb_sh1 p hp i hi]
    by_cases z : i = p
    · subst z
      rw [hx, cb_bf hL]
      simp
    · rw [decide_eq_false z] at e ⊢
      rw [Bool.not_false, Bool.and_true] at e
      exact e
theorem x_cq {post : Int32 → Prop} {n : Nat} {L t sh : Nat → Int32} {x : Int32} (hn : n ≤ 8) (P1 : Cq L n x → post 1) (P0 : ¬ Cq L n x → post 0) : wpX_isClique post (nI n, L, t, sh) x := by
  have h : ∀ d p, p + d = n → (∀ q, q < p → bt x q = true → (x &&& (((1 : Int32) <<< (nI q &&& 31)) ^^^ (-1))) &&& (L q ^^^ (-1)) = 0) → ∀ fuel, d < fuel → wX_isClique_2 post x (nI n) L t sh fuel (nI p) := by
    intro d
    induction d with
    | zero =>
      intro p hp hq fuel hfu
      obtain ⟨m, rfl⟩ : ∃ m, fuel = m + 1 := ⟨fuel - 1, by omega⟩
      exact br_t (nI_le (by omega) (by omega)) (P1 (fun q h2 => hq q (by omega)))
    | succ d ih =>
      intro p hp hq fuel hfu
      obtain ⟨m, rfl⟩ : ∃ m, fuel = m + 1 := ⟨fuel - 1, by omega⟩
      refine br_f (nI_ge (by omega) (by omega)) (nm_e (cb_br (by omega) (fun b => ⟨vp_in_nI (by omega) (by omega), ?_⟩) (fun b => nm_r (nI_1 p) ?_)))
      · rw [nI_clamp (show p < 2 ^ 31 by omega)]
        refine br_c (fun e => nm_r (nI_1 p) (ih (p + 1) (by omega) (fun q h2 h3 => ?_) m (by omega))) (fun e => P0 (fun z => e (z p (by omega) b)))
        by_cases w : q = p
        · subst w; exact e
        · exact hq q (by omega) h3
      · refine ih (p + 1) (by omega) (fun q h2 h3 => ?_) m (by omega)
        by_cases w : q = p
        · subst w; exact absurd h3 b
        · exact hq q (by omega) h3
  exact ⟨n + 1, h n 0 (by omega) (fun q hq => by omega) (n + 1) (by omega)⟩
theorem y_cq {post : Int32 → Prop} {n : Nat} {pr a : Int32} {L Be co : Nat → Int32} {x : Int32} (hn : n ≤ 8) (hG : Gr n L) (P1 : Cq L n x → post 1) (P0 : ¬ Cq L n x → post 0) : wpY_isClique post (nI n, pr, a, L, Be, co) x := by
  have h : ∀ d p, p + d = n → (∀ q, q < p → bt x q = true → (x &&& (((1 : Int32) <<< (nI q &&& 31)) ^^^ (-1))) &&& (L q ^^^ (-1)) = 0) → ∀ fuel, d < fuel → wY_isClique_2 post x (nI n) pr a L Be co fuel (nI p) := by
    intro d
    induction d with
    | zero =>
      intro p hp hq fuel hfu
      obtain ⟨m, rfl⟩ : ∃ m, fuel = m + 1 := ⟨fuel - 1, by omega⟩
      exact br_t (nI_le (by omega) (by omega)) (P1 (fun q h2 => hq q (by omega)))
    | succ d ih =>
      intro p hp hq fuel hfu
      obtain ⟨m, rfl⟩ : ∃ m, fuel = m + 1 := ⟨fuel - 1, by omega⟩
      refine br_f (nI_ge (by omega) (by omega)) (cb_br (by omega) (fun b => br_f (by decide) ⟨vp_in_nI (by omega) (by omega), ?_⟩) (fun b => br_t rfl (nm_r (nI_1 p) ?_)))
      · rw [nI_clamp (show p < 2 ^ 31 by omega), cq_e (by omega) (hG.1 p (by omega)) b]
        refine br_c (fun e => nm_r (nI_1 p) (ih (p + 1) (by omega) (fun q h2 h3 => ?_) m (by omega))) (fun e => P0 (fun z => e (z p (by omega) b)))
        by_cases w : q = p
        · subst w; exact e
        · exact hq q (by omega) h3
      · refine ih (p + 1) (by omega) (fun q h2 h3 => ?_) m (by omega)
        by_cases w : q = p
        · subst w; exact absurd h3 b
        · exact hq q (by omega) h3
  exact ⟨n + 1, h n 0 (by omega) (fun q hq => by omega) (n + 1) (by omega)⟩
theorem x_fq {post : Int32 → Prop} {n : Nat} {L t sh : Nat → Int32} {x : Int32} (hn : n ≤ 8) (P1 : Fq L n x → post 1) (P0 : ¬ Fq L n x → post 0) : wpX_isFree post (nI n, L, t, sh) x := by
  have h : ∀ d p, p + d = n → (∀ q, q < p → bt x q = true → x &&& L q = 0) → ∀ fuel, d < fuel → wX_isFree_2 post x (nI n) L t sh fuel (nI p) := by
    intro d
    induction d with
    | zero =>
      intro p hp hq fuel hfu
      obtain ⟨m, rfl⟩ : ∃ m, fuel = m + 1 := ⟨fuel - 1, by omega⟩
      exact br_t (nI_le (by omega) (by omega)) (P1 (fun q h2 => hq q (by omega)))
    | succ d ih =>
      intro p hp hq fuel hfu
      obtain ⟨m, rfl⟩ : ∃ m, fuel = m + 1 := ⟨fuel - 1, by omega⟩
      refine br_f (nI_ge (by omega) (by omega)) (cb_br (by omega) (fun b => ⟨vp_in_nI (by omega) (by omega), ?_⟩) (fun b => nm_r (nI_1 p) ?_))
      · rw [nI_clamp (show p < 2 ^ 31 by omega)]
        refine br_c (fun e => nm_r (nI_1 p) (ih (p + 1) (by omega) (fun q h2 h3 => ?_) m (by omega))) (fun e => P0 (fun z => e (z p (by omega) b)))
        by_cases w : q = p
        · subst w; exact e
        · exact hq q (by omega) h3
      · refine ih (p + 1) (by omega) (fun q h2 h3 => ?_) m (by omega)
        by_cases w : q = p
        · subst w; exact absurd h3 b
        · exact hq q (by omega) h3
  exact ⟨n + 1, h n 0 (by omega) (fun q hq => by omega) (n + 1) (by omega)⟩
theorem y_fq {post : Int32 → Prop} {n : Nat} {pr a : Int32} {L Be co : Nat → Int32} {x : Int32} (hn : n ≤ 8) (P1 : Fq L n x → post 1) (P0 : ¬ Fq L n x → post 0) : wpY_isFree post (nI n, pr, a, L, Be, co) x := by
  have h : ∀ d p, p + d = n → (∀ q, q < p → bt x q = true → x &&& L q = 0) → ∀ fuel, d < fuel → wY_isFree_2 post x (nI n) pr a L Be co fuel (nI p) := by
    intro d
    induction d with
    | zero =>
      intro p hp hq fuel hfu
      obtain ⟨m, rfl⟩ : ∃ m, fuel = m + 1 := ⟨fuel - 1, by omega⟩
      exact br_t (nI_le (by omega) (by omega)) (P1 (fun q h2 => hq q (by omega)))
    | succ d ih =>
      intro p hp hq fuel hfu
      obtain ⟨m, rfl⟩ : ∃ m, fuel = m + 1 := ⟨fuel - 1, by omega⟩
      refine br_f (nI_ge (by omega) (by omega)) (cb_br (by omega) (fun b => br_f (by decide) ⟨vp_in_nI (by omega) (by omega), ?_⟩) (fun b => br_t rfl (nm_r (nI_1 p) ?_)))
      · rw [nI_clamp (show p < 2 ^ 31 by omega)]
        refine br_c (fun e => nm_r (nI_1 p) (ih (p + 1) (by omega) (fun q h2 h3 => ?_) m (by omega))) (fun e => P0 (fun z => e (z p (by omega) b)))
        by_cases w : q = p
        · subst w; exact e
        · exact hq q (by omega) h3
      · refine ih (p + 1) (by omega) (fun q h2 h3 => ?_) m (by omega)
        by_cases w : q = p
        · subst w; exact absurd h3 b
        · exact hq q (by omega) h3
  exact ⟨n + 1, h n 0 (by omega) (fun q hq => by omega) (n + 1) (by omega)⟩
/-- the first largest clique among the sets 1 .. m; the largest free size -/
noncomputable def cb_ (L : Nat → Int32) (n : Nat) : Nat → Nat
  | 0 => 0
  | m + 1 => @ite _ (Cq L n (nI (m + 1)) ∧ pc (nI (cb_ L n m)) 8 < pc (nI (m + 1)) 8) (Classical.propDecidable _) (m + 1) (cb_ L n m)
noncomputable def fb_ (L : Nat → Int32) (n : Nat) : Nat → Nat
  | 0 => 0
  | m + 1 => @ite _ (Fq L n (nI (m + 1)) ∧ fb_ L n m < pc (nI (m + 1)) 8) (Classical.propDecidable _) (pc (nI (m + 1)) 8) (fb_ L n m)
theorem cb_t {L : Nat → Int32} {n m : Nat} (h : Cq L n (nI (m + 1)) ∧ pc (nI (cb_ L n m)) 8 < pc (nI (m + 1)) 8) : cb_ L n (m + 1) = m + 1 := if_pos h
theorem cb_f {L : Nat → Int32} {n m : Nat} (h : ¬ (Cq L n (nI (m + 1)) ∧ pc (nI (cb_ L n m)) 8 < pc (nI (m + 1)) 8)) : cb_ L n (m + 1) = cb_ L n m := if_neg h
theorem fb_t {L : Nat → Int32} {n m : Nat} (h : Fq L n (nI (m + 1)) ∧ fb_ L n m < pc (nI (m + 1)) 8) : fb_ L n (m + 1) = pc (nI (m + 1)) 8 := if_pos h
theorem fb_f {L : Nat → Int32} {n m : Nat} (h : ¬ (Fq L n (nI (m + 1)) ∧ fb_ L n m < pc (nI (m + 1)) 8)) : fb_ L n (m + 1) = fb_ L n m := if_neg h
theorem cb_le {L : Nat → Int32} {n : Nat} : ∀ m, cb_ L n m ≤ m := by
  intro m
  induction m with
  | zero => exact Nat.le_refl 0
  | succ m ih =>
    by_cases h : Cq L n (nI (m + 1)) ∧ pc (nI (cb_ L n m)) 8 < pc (nI (m + 1)) 8
    · rw [cb_t h]; exact Nat.le_refl _
    · rw [cb_f h]; omega
theorem fb_le {L : Nat → Int32} {n : Nat} : ∀ m, fb_ L n m ≤ 8 := by
  intro m
  induction m with
  | zero => exact Nat.zero_le _
  | succ m ih =>
    by_cases h : Fq L n (nI (m + 1)) ∧ fb_ L n m < pc (nI (m + 1)) 8
    · rw [fb_t h]; exact pc_le _ 8
    · rw [fb_f h]; exact ih
theorem x_cs {post : Int32 → Prop} {n : Nat} {L t sh : Nat → Int32} (hn : n ≤ 8) (P : post (nI (cb_ L n (2 ^ n - 1)))) : wpX_cliqueSet post (nI n, L, t, sh) := by
  obtain ⟨b1, b2⟩ := cb_p2 n (by omega)
  have h : ∀ d m, m + d = 2 ^ n - 1 → ∀ fuel, d < fuel → wX_cliqueSet_6 post (nI n) L t sh fuel (nI (cb_ L n m)) (nI (pc (nI (cb_ L n m)) 8)) (nI (m + 1)) := by
    intro d
    induction d with
    | zero =>
      intro m hm fuel hfu
      obtain ⟨f, rfl⟩ : ∃ f, fuel = f + 1 := ⟨fuel - 1, by omega⟩
      have e : m = 2 ^ n - 1 := by omega
      subst e
      exact br_t (by rw [cb_pow n (by omega)]; exact nI_le (by omega) (by omega)) P
    | succ d ih =>
      intro m hm fuel hfu
      obtain ⟨f, rfl⟩ : ∃ f, fuel = f + 1 := ⟨fuel - 1, by omega⟩
      have hr := ih (m + 1) (by omega) f (by omega)
      have p1 := pc_le (nI (m + 1)) 8
      have p2 := pc_le (nI (cb_ L n m)) 8
      refine br_f (by rw [cb_pow n (by omega)]; exact nI_ge (by omega) (by omega)) (x_sz (pk_le (pc (nI (m + 1)) 8) (pc (nI (cb_ L n m)) 8) (fun le => nm_r (nI_1 _) ?_) (fun lt => x_cq hn (fun c => br_f (by decide) (nm_r (nI_1 _) ?_)) (fun c => br_t rfl (nm_r (nI_1 _) ?_)))))
      · rw [cb_f (fun z => by omega)] at hr
        exact hr
      · rw [cb_t ⟨c, lt⟩] at hr
        exact hr
      · rw [cb_f (fun z => c z.1)] at hr
        exact hr
  have hh := h (2 ^ n - 1) 0 (by omega) (2 ^ n + 1) (by omega)
  rw [show pc (nI (cb_ L n 0)) 8 = 0 from pc_00] at hh
  exact ⟨2 ^ n + 1, hh⟩
theorem y_cs {post : Int32 → Prop} {n : Nat} {pr a : Int32} {L Be co : Nat → Int32} (hn : n ≤ 8) (hG : Gr n L) (P : post (nI (cb_ L n (2 ^ n - 1)))) : wpY_cliqueSet post (nI n, pr, a, L, Be, co) := by
  obtain ⟨b1, b2⟩ := cb_p2 n (by omega)
  have h : ∀ d m, m + d = 2 ^ n - 1 → ∀ fuel, d < fuel → wY_cliqueSet_4 post (nI n) pr a L Be co fuel (nI (cb_ L n m)) (nI (m + 1)) := by
    intro d
    induction d with
    | zero =>
      intro m hm fuel hfu
      obtain ⟨f, rfl⟩ : ∃ f, fuel = f + 1 := ⟨fuel - 1, by omega⟩
      have e : m = 2 ^ n - 1 := by omega
      subst e
      exact br_t (by rw [cb_pow1 n (by omega)]; exact nI_lt (by omega) (by omega)) P
    | succ d ih =>
      intro m hm fuel hfu
      obtain ⟨f, rfl⟩ : ∃ f, fuel = f + 1 := ⟨fuel - 1, by omega⟩
      have hr := ih (m + 1) (by omega) f (by omega)
      have p1 := pc_le (nI (m + 1)) 8
      have p2 := pc_le (nI (cb_ L n m)) 8
      have q0 := cb_le (L := L) (n := n) m
      have q1 := pc_n (s := m + 1) (n := n) (by omega) hn
      have q2 := pc_n (s := cb_ L n m) (n := n) (by omega) hn
      refine br_f (by rw [cb_pow1 n (by omega)]; exact nI_nlt (by omega) (by omega)) (y_cq hn hG (fun c => br_f (by decide) (y_sz hn (y_sz hn (pk_le (pc (nI (m + 1)) n) (pc (nI (cb_ L n m)) n) (fun le => nm_r (nI_1 _) ?_) (fun lt => nm_r (nI_1 _) ?_))))) (fun c => br_t rfl (nm_r (nI_1 _) ?_)))
      · rw [cb_f (fun z => by omega)] at hr
        exact hr
      · rw [cb_t ⟨c, by omega⟩] at hr
        exact hr
      · rw [cb_f (fun z => c z.1)] at hr
        exact hr
  exact ⟨2 ^ n + 1, h (2 ^ n - 1) 0 (by omega) (2 ^ n + 1) (by omega)⟩
theorem x_fr {post : Int32 → Prop} {n : Nat} {L t sh : Nat → Int32} (hn : n ≤ 8) (P : post (nI (fb_ L n (2 ^ n - 1)))) : wpX_free post (nI n, L, t, sh) := by
  obtain ⟨b1, b2⟩ := cb_p2 n (by omega)
  have h : ∀ d m, m + d = 2 ^ n - 1 → ∀ fuel, d < fuel → wX_free_4 post (nI n) L t sh fuel (nI (fb_ L n m)) (nI (m + 1)) := by
    intro d
    induction d with
    | zero =>
      intro m hm fuel hfu
      obtain ⟨f, rfl⟩ : ∃ f, fuel = f + 1 := ⟨fuel - 1, by omega⟩
      have e : m = 2 ^ n - 1 := by omega
      subst e
      exact br_t (by rw [cb_pow n (by omega)]; exact nI_le (by omega) (by omega)) P
    | succ d ih =>
      intro m hm fuel hfu
      obtain ⟨f, rfl⟩ : ∃ f, fuel = f + 1 := ⟨fuel - 1, by omega⟩
      have hr := ih (m + 1) (by omega) f (by omega)
      have p1 := pc_le (nI (m + 1)) 8
      have p2 := fb_le (L := L) (n := n) m
      refine br_f (by rw [cb_pow n (by omega)]; exact nI_ge (by omega) (by omega)) (x_sz (pk_le (pc (nI (m + 1)) 8) (fb_ L n m) (fun le => nm_r (nI_1 _) ?_) (fun lt => x_fq hn (fun c => br_f (by decide) (nm_r (nI_1 _) ?_)) (fun c => br_t rfl (nm_r (nI_1 _) ?_)))))
      · rw [fb_f (fun z => by omega)] at hr
        exact hr
      · rw [fb_t ⟨c, lt⟩] at hr
        exact hr
      · rw [fb_f (fun z => c z.1)] at hr
        exact hr
  exact ⟨2 ^ n + 1, h (2 ^ n - 1) 0 (by omega) (2 ^ n + 1) (by omega)⟩
theorem y_fr {post : Int32 → Prop} {n : Nat} {pr a : Int32} {L Be co : Nat → Int32} (hn : n ≤ 8) (P : post (nI (fb_ L n (2 ^ n - 1)))) : wpY_free post (nI n, pr, a, L, Be, co) := by
  obtain ⟨b1, b2⟩ := cb_p2 n (by omega)
  have h : ∀ d m, m + d = 2 ^ n - 1 → ∀ fuel, d < fuel → wY_free_4 post (nI n) pr a L Be co fuel (nI (fb_ L n m)) (nI (m + 1)) := by
    intro d
    induction d with
    | zero =>
      intro m hm fuel hfu
      obtain ⟨f, rfl⟩ : ∃ f, fuel = f + 1 := ⟨fuel - 1, by omega⟩
      have e : m = 2 ^ n - 1 := by omega
      subst e
      exact br_t (by rw [cb_pow1 n (by omega)]; exact nI_lt (by omega) (by omega)) P
    | succ d ih =>
      intro m hm fuel hfu
      obtain ⟨f, rfl⟩ : ∃ f, fuel = f + 1 := ⟨fuel - 1, by omega⟩
      have hr := ih (m + 1) (by omega) f (by omega)
      have p1 := pc_le (nI (m + 1)) 8
      have p2 := fb_le (L := L) (n := n) m
      have q1 := pc_n (s := m + 1) (n := n) (by omega) hn
      refine br_f (by rw [cb_pow1 n (by omega)]; exact nI_nlt (by omega) (by omega)) (y_fq hn (fun c => br_f (by decide) (y_sz hn (pk_le (pc (nI (m + 1)) n) (fb_ L n m) (fun le => nm_r (nI_1 _) ?_) (fun lt => nm_r (nI_1 _) ?_)))) (fun c => br_t rfl (pk_le 0 (fb_ L n m) (fun le => nm_r (nI_1 _) ?_) (fun lt => by omega))))
      · rw [fb_f (fun z => by omega)] at hr
        exact hr
      · rw [fb_t ⟨c, by omega⟩, q1] at hr
        exact hr
      · rw [fb_f (fun z => c z.1)] at hr
        exact hr
  exact ⟨2 ^ n + 1, h (2 ^ n - 1) 0 (by omega) (2 ^ n + 1) (by omega)⟩
theorem i_vc_cliqueSet {k : Nat} {u : SX} {v : SY} (I : i_Rel k u v) (hk : k + 4 ≤ 2049) : wpX_cliqueSet (fun r => wpY_cliqueSet (fun r' => r' = r ∧ i_Rel (k + 4) u v) v) u := by
  obtain ⟨n, L, t, sh, pr, a, Be, co, h1, h8, hG, rfl, rfl⟩ := I
  exact x_cs h8 (y_cs h8 hG ⟨rfl, rl_mk h1 h8 hG⟩)
theorem i_vc_clique {k : Nat} {u : SX} {v : SY} (I : i_Rel k u v) (hk : k + 4 ≤ 2049) : wpX_clique (fun r => wpY_clique (fun r' => r' = r ∧ i_Rel (k + 4) u v) v) u := by
  obtain ⟨n, L, t, sh, pr, a, Be, co, h1, h8, hG, rfl, rfl⟩ := I
  obtain ⟨b1, b2⟩ := cb_p2 n (by omega)
  have q0 := cb_le (L := L) (n := n) (2 ^ n - 1)
  have q1 := pc_n (s := cb_ L n (2 ^ n - 1)) (n := n) (by omega) h8
  unfold wpX_clique
  refine x_cs h8 (x_sz ?_)
  unfold wpY_clique
  refine y_cs h8 hG (y_sz h8 ⟨?_, rl_mk h1 h8 hG⟩)
  rw [q1]
theorem i_vc_free {k : Nat} {u : SX} {v : SY} (I : i_Rel k u v) (hk : k + 4 ≤ 2049) : wpX_free (fun r => wpY_free (fun r' => r' = r ∧ i_Rel (k + 4) u v) v) u := by
  obtain ⟨n, L, t, sh, pr, a, Be, co, h1, h8, hG, rfl, rfl⟩ := I
  exact x_fr h8 (y_fr h8 ⟨rfl, rl_mk h1 h8 hG⟩)
end
section
/-! chromatic, colour, ways; our own -/
theorem AF_cg {T T' : Nat → Nat → Prop} {p c : Nat} {f : Nat → Nat} (h : ∀ q, q < p → (T p q ↔ T' p q)) : AF T p f c ↔ AF T' p f c := ⟨fun a q hq t => a q hq ((h q hq).mpr t), fun a q hq t => a q hq ((h q hq).mp t)⟩
theorem AX_cg {T T' : Nat → Nat → Prop} {p c : Nat} {f : Nat → Nat} (h : ∀ q, q < p → (T p q ↔ T' p q)) : AX T p f c ↔ AX T' p f c := and_congr Iff.rfl (AF_cg h)
theorem Col_cg {T T' : Nat → Nat → Prop} {n : Nat} (h : ∀ p q, p < n → q < p → (T p q ↔ T' p q)) (k : Nat) : Col T n k ↔ Col T' n k := by
  constructor
  · rintro ⟨f, hf⟩
    exact ⟨f, fun p hp => ⟨(hf p hp).1, (AF_cg (fun q hq => h p q hp hq)).mp (hf p hp).2⟩⟩
  · rintro ⟨f, hf⟩
    exact ⟨f, fun p hp => ⟨(hf p hp).1, (AF_cg (fun q hq => h p q hp hq)).mpr (hf p hp).2⟩⟩
theorem Chi_cg {C D : Nat → Prop} {x : Nat} (h : ∀ j, 1 ≤ j → (C j ↔ D j)) (a : Chi C x) : Chi D x := ⟨a.1, (h x a.1).mp a.2.1, fun j h1 h2 z => a.2.2 j h1 h2 ((h j h1).mpr z)⟩
theorem Chi_n {T : Nat → Nat → Prop} {n : Nat} (hn : 1 ≤ n) : ∃ x, x ≤ n ∧ Chi (Col T n) x := Chi_e n hn (Col_n T n)
theorem Chi_le {T : Nat → Nat → Prop} {n x : Nat} (hn : 1 ≤ n) (h : Chi (Col T n) x) : x ≤ n := by
  apply Classical.byContradiction
  intro z
  exact h.2.2 n hn (by omega) (Col_n T n)
theorem Chi_pre {T : Nat → Nat → Prop} {n x : Nat} (hn : 1 ≤ n) (h : Chi (Col T n) x) : ¬ Col T n (x - 1) := by
  by_cases e : x = 1
  · subst e
    rintro ⟨f, hf⟩
    have := (hf 0 (by omega)).1
    omega
  · have := h.1
    exact h.2.2 (x - 1) (by omega) (by omega)
theorem x_lst {post : Int32 → SX → Prop} {L t sh : Nat → Int32} {n x : Nat} {T : Nat → Nat → Prop} (hn1 : 1 ≤ n) (hn : n ≤ 8) (hT : ∀ p q, p < n → q < p → (tT t p q ↔ T p q)) (hx : Chi (Col T n) x) (h : ∀ (sh' : Nat → Int32) (h : Nat → Nat), (dl (AF T) x n 0 (fun _ => 0)).head? = some h → (∀ i, i < n → sh' i = nI (h i)) → post (nI x) (nI n, L, t, sh')) : wpX_leastColours post (nI n, L, t, sh) := by
  refine x_least hn1 hn (Chi_cg (fun j _ => (Col_cg hT j).symm) hx) (fun sh' h' e m => h sh' h' ?_ m)
  rw [dl_hd, dl_cg (A := AF (tT t)) (A' := AF T) (n := n) (fun p f c hp => AF_cg (fun q hq => hT p q hp hq)) n 0 _ (by omega)] at e
  exact e
theorem y_all {n : Nat} (hn1 : 1 ≤ n) (hn : n ≤ 8) : ¬ ((1 : Int32) <<< (nI n &&& 31)) - 1 = 0 := by
  intro z
  have := cb_all n (by omega) 0 (by omega)
  rw [z, b_0, decide_eq_true (by omega)] at this
  cases this
theorem y_full {n : Nat} {L be : Nat → Int32} (hn : n ≤ 8) (hb : ∀ i, i < n → be i = L i &&& (((1 : Int32) <<< (nI n &&& 31)) - 1)) {p : Nat} {f : Nat → Nat} {c : Nat} (hp : p < n) : AY be (((1 : Int32) <<< (nI n &&& 31)) - 1) p f c ↔ AF (tT L) p f c := by
  have e : ∀ q, q < n → bt (((1 : Int32) <<< (nI n &&& 31)) - 1) q = true := fun q hq => by rw [cb_all n (by omega) q (by omega), decide_eq_true hq]
  have e2 : ∀ q, q < n → bt (be p) q = bt (L p) q := fun q hq => by rw [hb p hp, b_and, e q hq, Bool.and_true]
  constructor
  · intro a q hq t
    exact a.1 (e p hp) q hq (by rw [e2 q (by omega)]; exact t) (e q (by omega))
  · intro a
    refine ⟨fun _ q hq t _ => a q hq ?_, fun z => absurd (e p hp) z⟩
    rw [e2 q (by omega)] at t
    exact t
/-- the reference's fewest on all points -/
theorem y_lst {post : Int32 → SY → Prop} {N be co : Nat → Int32} {a pr : Int32} {n x : Nat} {T : Nat → Nat → Prop} (hn1 : 1 ≤ n) (hn : n ≤ 8) (hpr : ¬ pr = 0) (hA : ∀ p f c, p < n → (AY be pr p f c ↔ AF T p f c)) (hx : Chi (Col T n) x) (h : ∀ (co' : Nat → Int32) (h : Nat → Nat), dl (AF T) x n 0 (fun _ => 0) = h :: up_ (AY be pr) x n h n → (∀ i, i < n → h i < x) → (∀ i, i < n → co' i = nI (h i)) → post (nI x) (nI n, pr, nI n, N, be, co')) : wpY_fewest post (nI n, pr, a, N, be, co) := by
  have hx8 := Chi_le hn1 hx
  have hc : ∀ j, CY be pr n j ↔ Col T n j := by
    intro j
    constructor
    · rintro ⟨f, hf⟩
      exact ⟨f, fun p hp => ⟨(hf p hp).1, (hA p f _ hp).mp (hf p hp).2⟩⟩
    · rintro ⟨f, hf⟩
      exact ⟨f, fun p hp => ⟨(hf p hp).1, (hA p f _ hp).mpr (hf p hp).2⟩⟩
  refine y_few hn1 hn hpr (by omega) (Chi_cg (fun j _ => (hc j).symm) hx) (fun co' h' e hb m => h co' h' ?_ hb m)
  rw [← e]
  exact (dl_cg hA n 0 _ (by omega)).symm
theorem y_chr {post : Int32 → SY → Prop} {L Be co : Nat → Int32} {a pr : Int32} {n x : Nat} (hn1 : 1 ≤ n) (hn : n ≤ 8) (hx : Chi (Col (tT L) n) x) (h : ∀ (be co' : Nat → Int32) (h : Nat → Nat), (∀ p f c, p < n → (AY be (((1 : Int32) <<< (nI n &&& 31)) - 1) p f c ↔ AF (tT L) p f c)) → dl (AF (tT L)) x n 0 (fun _ => 0) = h :: up_ (AY be (((1 : Int32) <<< (nI n &&& 31)) - 1)) x n h n → (∀ i, i < n → h i < x) → (∀ i, i < n → co' i = nI (h i)) → post (nI x) (nI n, ((1 : Int32) <<< (nI n &&& 31)) - 1, nI n, L, be, co')) : wpY_chromatic post (nI n, pr, a, L, Be, co) := by
  unfold wpY_chromatic
  refine y_cpA hn (fun b hb => ?_)
  have hA : ∀ p f c, p < n → (AY b (((1 : Int32) <<< (nI n &&& 31)) - 1) p f c ↔ AF (tT L) p f c) := fun p f c hp => y_full hn hb hp
  exact y_lst hn1 hn (y_all hn1 hn) hA hx (fun co' h' e hb' m => h b co' h' hA e hb' m)
theorem tT_cp {n : Nat} {L t : Nat → Int32} (ht : ∀ i, i < n → t i = L i) : ∀ p q, p < n → q < p → (tT t p q ↔ tT L p q) := fun p q hp _ => by
  unfold tT
  rw [ht p hp]
theorem i_vc_chromatic {k : Nat} {u : SX} {v : SY} (I : i_Rel k u v) (hk : k + 4 ≤ 2049) : wpX_chromatic (fun r u' => wpY_chromatic (fun r' v' => r' = r ∧ i_Rel (k + 4) u' v') v) u := by
  obtain ⟨n, L, t, sh, pr, a, Be, co, h1, h8, hG, rfl, rfl⟩ := I
  obtain ⟨x, hxn, hx⟩ := Chi_n (T := tT L) h1
  unfold wpX_chromatic
  refine x_cp h8 (fun t' ht => ?_)
  refine x_lst h1 h8 (tT_cp ht) hx (fun sh' h' e m => ?_)
  exact y_chr h1 h8 hx (fun be co' h'' hA e2 hb m2 => ⟨rfl, rl_mk h1 h8 hG⟩)
theorem i_vc_colour {k : Nat} {u : SX} {v : SY} (I : i_Rel k u v) (hk : k + 4 ≤ 2049) (v1 : Int32) : wpX_colour (fun r u' => wpY_colour (fun r' v' => r' = r ∧ i_Rel (k + 4) u' v') v v1) u v1 := by
  obtain ⟨n, L, t, sh, pr, a, Be, co, h1, h8, hG, rfl, rfl⟩ := I
  obtain ⟨x, hxn, hx⟩ := Chi_n (T := tT L) h1
  unfold wpX_colour
  rcases pt_c v1 h8 with hp | ⟨i, hi, rfl⟩
  · refine x_pt0 hp (br_t rfl ?_)
    unfold wpY_colour
    exact y_pt0 hp (br_t rfl ⟨rfl, rl_mk h1 h8 hG⟩)
  · refine x_pt1 h8 hi (br_f (by decide) ?_)
    refine x_cp h8 (fun t' ht => ?_)
    refine x_lst h1 h8 (tT_cp ht) hx (fun sh' h' e m => ⟨cb_in hi h8, ?_⟩)
    unfold wpY_colour
    refine y_pt1 h8 hi (br_f (by decide) (y_chr h1 h8 hx (fun be co' h'' hA e2 hb m2 => ⟨cb_in hi h8, ?_, rl_mk h1 h8 hG⟩)))
    rw [e2] at e
    have e3 : h'' = h' := Option.some.inj e
    rw [nI_clamp (by omega), m i hi, m2 i hi, e3]
theorem x_wl {post : Int32 → SX → Prop} {F : Int32} {L t sh : Nat → Int32} {x c : Nat} (hx : x ≤ 8) (P : post (nI (c * fac x)) (F, L, t, sh)) : ∀ d i, i + d = x → ∀ fuel, d < fuel → wX_ways_19 post (nI x) F L t sh fuel (nI (c * fac i)) (nI (i + 1)) := by
  intro d
  induction d with
  | zero =>
    intro i hi fuel hfu
    obtain ⟨m, rfl⟩ : ∃ m, fuel = m + 1 := ⟨fuel - 1, by omega⟩
    have e : i = x := by omega
    subst e
    exact br_t (nI_lt (by omega) (by omega)) P
  | succ d ih =>
    intro i hi fuel hfu
    obtain ⟨m, rfl⟩ : ∃ m, fuel = m + 1 := ⟨fuel - 1, by omega⟩
    refine br_f (nI_nlt (by omega) (by omega)) (nm_r (e' := nI (c * fac (i + 1))) ?_ (nm_r (nI_1 _) (ih (i + 1) (by omega) m (by omega))))
    rw [pk_mul]
    show nI (c * fac i * (i + 1)) = nI (c * ((i + 1) * fac i))
    rw [Nat.mul_assoc, Nat.mul_comm (fac i)]
theorem y_wl {post : Int32 → SY → Prop} {N Be : Nat → Int32} {pr : Int32} {n k : Nat} (hn1 : 1 ≤ n) (hn : n ≤ 8) (hk1 : 1 ≤ k) (hk : k ≤ 8) : ∀ (R : List (Nat → Nat)) (g : Nat → Nat) (co : Nat → Int32) (c : Nat), up_ (AY Be pr) k n g n = R → (∀ i, i < n → g i < k) → (∀ i, i < n → co i = nI (g i)) → c + R.length ≤ 50000 → (∀ a' co', post (nI (c + R.length)) (nI n, pr, a', N, Be, co')) → ∀ fuel, R.length < fuel → wY_ways_13 post (nI k) fuel (nI c) (nI c) (nI n) pr (nI n) N Be co := by
  intro R
  induction R with
  | nil =>
    intro g co c e hg hco hc P fuel hfu
    obtain ⟨m, rfl⟩ : ∃ m, fuel = m + 1 := ⟨fuel - 1, by omega⟩
    rw [List.length_nil] at hc
    refine br_c (fun _ => P _ _) (fun _ => y_n1 hn1 hn hk1 hk hg hco (fun _ co' => br_t rfl (P _ _)) (fun h e2 _ _ _ => ?_))
    rw [e] at e2
    cases e2
  | cons h0 R ih =>
    intro g co c e hg hco hc P fuel hfu
    obtain ⟨m, rfl⟩ : ∃ m, fuel = m + 1 := ⟨fuel - 1, by omega⟩
    rw [List.length_cons] at hc hfu P
    refine br_f (nI_ge (b := 50000) (by omega) (by decide)) (y_n1 hn1 hn hk1 hk hg hco (fun e2 co' => ?_) (fun h e2 hb co' m2 => br_f (by decide) (nm_r (nI_1 c) (nm_r (nI_1 c) ?_))))
    · rw [e] at e2
      cases e2
    · rw [e] at e2
      have e3 := (List.cons.inj e2).2
      refine ih h co' (c + 1) e3.symm hb m2 (by omega) (fun a' co'' => ?_) m (by omega)
      rw [show c + 1 + R.length = c + (R.length + 1) by omega]
      exact P a' co''
theorem y_w0 {post : Int32 → SY → Prop} {N Be co : Nat → Int32} {pr : Int32} {n k : Nat} (hn1 : 1 ≤ n) (hn : n ≤ 8) (hk1 : 1 ≤ k) (hk : k ≤ 8) (hco : ∀ i, i < 8 → co i = -1) (hc : (dl (AY Be pr) k n 0 (fun _ => 0)).length ≤ 50000) (P : ∀ a' co', post (nI (dl (AY Be pr) k n 0 (fun _ => 0)).length) (nI n, pr, a', N, Be, co')) : ∃ fuel, wY_ways_13 post (nI k) fuel 0 0 (nI n) pr 0 N Be co := by
  refine ⟨50002, ?_⟩
  refine br_f (by decide) (y_n0 hn1 hn hk1 hk hco (fun e2 co' => br_t rfl ?_) (fun h e2 hb co' m2 => br_f (by decide) (nm_e (nm_e ?_))))
  · rw [e2] at P
    exact P _ _
  · rw [e2, List.length_cons] at P hc
    refine y_wl hn1 hn hk1 hk _ h co' 1 rfl hb m2 (by omega) (fun a' co'' => ?_) 50001 (by omega)
    rw [Nat.add_comm 1]
    exact P a' co''
theorem fac_pos : ∀ n, 1 ≤ fac n := by
  intro n
  induction n with
  | zero => exact Nat.le_refl 1
  | succ n ih =>
    show 1 ≤ (n + 1) * fac n
    exact Nat.mul_pos (by omega) ih
theorem i_vc_ways {k : Nat} {u : SX} {v : SY} (I : i_Rel k u v) (hk : k + 4 ≤ 2049) : wpX_ways (fun r u' => wpY_ways (fun r' v' => r' = r ∧ i_Rel (k + 4) u' v') v) u := by
  obtain ⟨n, L, t, sh, pr, a, Be, co, h1, h8, hG, rfl, rfl⟩ := I
  obtain ⟨x, hxn, hx⟩ := Chi_n (T := tT L) h1
  have hb := dl_bound (tT L) h8 hx.1 (by omega) (fun _ => Chi_pre h1 hx)
  have hw := dl_ways (tT L) hx.1 (Chi_pre h1 hx)
  have hl : (dl (AX (tT L)) x n 0 (fun _ => 0)).length ≤ 50000 := by
    have := Nat.mul_le_mul_right (dl (AX (tT L)) x n 0 (fun _ => 0)).length (fac_pos x)
    rw [← hw, Nat.one_mul] at this
    omega
  unfold wpX_ways
  refine x_cp h8 (fun t' ht => ?_)
  refine x_lst h1 h8 (tT_cp ht) hx (fun sh' h' e m => ?_)
  have eX : dl (AX (tT t')) x n 0 (fun _ => 0) = dl (AX (tT L)) x n 0 (fun _ => 0) := dl_cg (n := n) (fun p f c hp => AX_cg (fun q hq => tT_cp ht p q hp hq)) n 0 _ (by omega)
  refine x_cc (most := 1000000) h1 h8 (by omega) (by omega) (by omega) (Or.inr (by rw [eX]; omega)) (fun _ sh'' => ⟨x + 1, ?_⟩) (fun _ _ _ z => by omega)
  rw [eX]
  have hx1 := hx.1
  have W := x_wl (post := fun r u' => wpY_ways (fun r' v' => r' = r ∧ i_Rel (k + 4) u' v') (nI n, pr, a, L, Be, co)) (F := nI n) (L := L) (t := t') (sh := sh'') (x := x) (c := (dl (AX (tT L)) x n 0 (fun _ => 0)).length) (by omega) ?_ (x - 1) 1 (by omega) (x + 1) (by omega)
  · rw [show (dl (AX (tT L)) x n 0 (fun _ => 0)).length * fac 1 = (dl (AX (tT L)) x n 0 (fun _ => 0)).length from Nat.mul_one _] at W
    exact W
  · unfold wpY_ways
    refine y_chr h1 h8 hx (fun be co' h'' hA e2 hb2 m2 => y_begin (fun co1 hco1 => ?_))
    have eY : dl (AY be (((1 : Int32) <<< (nI n &&& 31)) - 1)) x n 0 (fun _ => 0) = dl (AF (tT L)) x n 0 (fun _ => 0) := dl_cg hA n 0 _ (by omega)
    refine y_w0 h1 h8 hx.1 (by omega) hco1 (by rw [eY]; exact hb) (fun a' co'' => ⟨?_, rl_mk h1 h8 hG⟩)
    rw [eY, hw, Nat.mul_comm]
end
section
/-! same, tight; our own -/
theorem y_sl {post : Int32 → SY → Prop} {N Be : Nat → Int32} {pr : Int32} {n k i j : Nat} (hn1 : 1 ≤ n) (hn : n ≤ 8) (hk1 : 1 ≤ k) (hk : k ≤ 8) (hi : i < n) (hj : j < n) : ∀ (R : List (Nat → Nat)) (g : Nat → Nat) (co : Nat → Int32) (c : Nat), up_ (AY Be pr) k n g n = R → (∀ i, i < n → g i < k) → (∀ i, i < n → co i = nI (g i)) → c + R.length ≤ 50000 → ((∀ h, h ∈ R → h i = h j) → ∀ a' co', post 1 (nI n, pr, a', N, Be, co')) → (¬ (∀ h, h ∈ R → h i = h j) → ∀ a' co', post 0 (nI n, pr, a', N, Be, co')) → ∀ fuel, R.length < fuel → wY_same_30 post (nI i) (nI j) (nI k) fuel (nI c) (nI n) pr (nI n) N Be co := by
  intro R
  induction R with
  | nil =>
    intro g co c e hg hco hc P1 P0 fuel hfu
    obtain ⟨m, rfl⟩ : ∃ m, fuel = m + 1 := ⟨fuel - 1, by omega⟩
    have P := P1 (fun h hh => by cases hh)
    refine br_c (fun _ => P _ _) (fun _ => y_n1 hn1 hn hk1 hk hg hco (fun _ co' => br_t rfl (P _ _)) (fun h e2 _ _ _ => ?_))
    rw [e] at e2
    cases e2
  | cons h0 R ih =>
    intro g co c e hg hco hc P1 P0 fuel hfu
    obtain ⟨m, rfl⟩ : ∃ m, fuel = m + 1 := ⟨fuel - 1, by omega⟩
    rw [List.length_cons] at hc hfu
    refine br_f (nI_ge (b := 50000) (by omega) (by decide)) (y_n1 hn1 hn hk1 hk hg hco (fun e2 co' => ?_) (fun h e2 hb co' m2 => br_f (by decide) ⟨cb_in hi hn, cb_in hj hn, ?_⟩))
    · rw [e] at e2
      cases e2
    · rw [e] at e2
      have e3 := (List.cons.inj e2).2
      have e4 := (List.cons.inj e2).1
      have bi := hb i hi
      have bj := hb j hj
      refine pk_eq (h i) (h j) (fun eq => nm_r (nI_1 c) (ih h co' (c + 1) e3.symm hb m2 (by omega) (fun z => P1 ?_) (fun z => P0 ?_) m (by omega))) (fun ne => P0 ?_ _ _) (by rw [nI_clamp (by omega), m2 i hi]) (by rw [nI_clamp (by omega), m2 j hj]) (by omega) (by omega)
      · intro h' hh
        rcases List.mem_cons.mp hh with w | w
        · rw [w, e4]; exact eq
        · exact z h' w
      · intro w
        exact z (fun h' hh => w h' (List.mem_cons_of_mem _ hh))
      · intro w
        have := w h0 (List.mem_cons_self)
        rw [e4] at this
        exact ne this
theorem y_s0 {post : Int32 → SY → Prop} {N Be co : Nat → Int32} {pr : Int32} {n k i j : Nat} (hn1 : 1 ≤ n) (hn : n ≤ 8) (hk1 : 1 ≤ k) (hk : k ≤ 8) (hi : i < n) (hj : j < n) (hco : ∀ i, i < 8 → co i = -1) (hc : (dl (AY Be pr) k n 0 (fun _ => 0)).length ≤ 50000) (P1 : (∀ h, h ∈ dl (AY Be pr) k n 0 (fun _ => 0) → h i = h j) → ∀ a' co', post 1 (nI n, pr, a', N, Be, co')) (P0 : ¬ (∀ h, h ∈ dl (AY Be pr) k n 0 (fun _ => 0) → h i = h j) → ∀ a' co', post 0 (nI n, pr, a', N, Be, co')) : ∃ fuel, wY_same_30 post (nI i) (nI j) (nI k) fuel 0 (nI n) pr 0 N Be co := by
  refine ⟨50002, ?_⟩
  refine br_f (by decide) (y_n0 hn1 hn hk1 hk hco (fun e2 co' => br_t rfl ?_) (fun h e2 hb co' m2 => br_f (by decide) ⟨cb_in hi hn, cb_in hj hn, ?_⟩))
  · exact P1 (fun h hh => by rw [e2] at hh; cases hh) _ _
  · rw [e2] at P1 P0
    rw [e2, List.length_cons] at hc
    have bi := hb i hi
    have bj := hb j hj
    refine pk_eq (h i) (h j) (fun eq => nm_e (y_sl hn1 hn hk1 hk hi hj _ h co' 1 rfl hb m2 (by omega) (fun z => P1 ?_) (fun z => P0 ?_) 50001 (by omega))) (fun ne => P0 ?_ _ _) (by rw [nI_clamp (by omega), m2 i hi]) (by rw [nI_clamp (by omega), m2 j hj]) (by omega) (by omega)
    · intro h' hh
      rcases List.mem_cons.mp hh with w | w
      · rw [w]; exact eq
      · exact z h' w
    · intro w
      exact z (fun h' hh => w h' (List.mem_cons_of_mem _ hh))
    · intro w
      exact ne (w h (List.mem_cons_self))
theorem x_link {post : SX → Prop} {n i j : Nat} {L t sh : Nat → Int32} (hi : i < 8) (hj : j < 8) (P : post (nI n, L, js t i j, sh)) : wpX_linkTrial post (nI n, L, t, sh) (nI i) (nI j) := by
  have ii : vp_in (nI i) 8 := vp_in_nI hi (by omega)
  have ij : vp_in (nI j) 8 := vp_in_nI hj (by omega)
  exact ⟨ii, ii, nm_r (e' := upd t i (t i ||| ((1 : Int32) <<< (nI j &&& 31)))) (by rw [nI_clamp (by omega)]) ⟨ij, ij, nm_r (e' := js t i j) (by rw [nI_clamp (by omega)]; rfl) P⟩⟩
theorem x_unlink {post : SX → Prop} {n i j : Nat} {L t sh : Nat → Int32} (hi : i < 8) (hj : j < 8) (P : post (nI n, L, jc t i j, sh)) : wpX_unlinkTrial post (nI n, L, t, sh) (nI i) (nI j) := by
  have ii : vp_in (nI i) 8 := vp_in_nI hi (by omega)
  have ij : vp_in (nI j) 8 := vp_in_nI hj (by omega)
  exact ⟨ii, ii, nm_r (e' := upd t i (t i &&& (((1 : Int32) <<< (nI j &&& 31)) ^^^ (-1)))) (by rw [nI_clamp (by omega)]) ⟨ij, ij, nm_r (e' := jc t i j) (by rw [nI_clamp (by omega)]; rfl) P⟩⟩
theorem js_cp {n i j : Nat} {L t : Nat → Int32} (hn : n ≤ 8) (hi : i < 8) (hj : j < 8) (ht : ∀ i, i < n → t i = L i) : ∀ p q, p < n → q < p → (tT (js t i j) p q ↔ tT (js L i j) p q) := by
  intro p q hp hq
  unfold tT
  rw [js_b hi hj (by omega), js_b hi hj (by omega), ht p hp]
theorem jc_cp {n i j : Nat} {L t : Nat → Int32} (hn : n ≤ 8) (hi : i < 8) (hj : j < 8) (ht : ∀ i, i < n → t i = L i) : ∀ p q, p < n → q < p → (tT (jc t i j) p q ↔ tT (jc L i j) p q) := by
  intro p q hp hq
  unfold tT
  rw [jc_b hi hj (by omega), jc_b hi hj (by omega), ht p hp]
/-- a colouring that tells i from j is one of the graph with the link -/
theorem sm_iff {n i j x y : Nat} {L : Nat → Int32} (hn : n ≤ 8) (hi : i < n) (hj : j < n) (hij : i ≠ j) (hx : Chi (Col (tT L) n) x) (hy : Chi (Col (tT (js L i j)) n) y) : y ≤ x ↔ ¬ ∀ h, h ∈ dl (AF (tT L)) x n 0 (fun _ => 0) → h i = h j := by
  constructor
  · intro hle hall
    obtain ⟨f, hf⟩ := Col_mono hle hy.2.1
    have hm : tc f n ∈ dl (AF (tT L)) x n 0 (fun _ => 0) := by
      rw [dl_mem (AF_loc _)]
      refine ⟨fun a ha => tc_g (by omega), fun a _ ha => ?_⟩
      rw [tc_l (by omega)]
      refine ⟨(hf a (by omega)).1, fun q hq t => ?_⟩
      rw [tc_l (by omega)]
      refine (hf a (by omega)).2 q hq ?_
      unfold tT at t ⊢
      rw [js_b (by omega) (by omega) (by omega)]
      exact Or.inl t
    have e := hall _ hm
    rw [tc_l hi, tc_l hj] at e
    rcases Nat.lt_or_gt_of_ne hij with z | z
    · refine (hf j hj).2 i z ?_ e
      unfold tT
      rw [js_b (by omega) (by omega) (by omega)]
      exact Or.inr (Or.inr ⟨rfl, rfl⟩)
    · refine (hf i hi).2 j z ?_ e.symm
      unfold tT
      rw [js_b (by omega) (by omega) (by omega)]
      exact Or.inr (Or.inl ⟨rfl, rfl⟩)
  · intro hno
    apply Classical.byContradiction
    intro z
    apply hno
    intro h hh
    rw [dl_mem (AF_loc _)] at hh
    apply Classical.byContradiction
    intro ne
    refine hy.2.2 x hx.1 (by omega) ⟨h, fun p hp => ?_⟩
    have a := hh.2 p (by omega) (by omega)
    refine ⟨a.1, fun q hq t => ?_⟩
    unfold tT at t
    rw [js_b (by omega) (by omega) (by omega)] at t
    rcases t with t | ⟨rfl, rfl⟩ | ⟨rfl, rfl⟩
    · exact a.2 q hq t
    · exact fun w => ne w.symm
    · exact fun w => ne w
theorem i_vc_same {k : Nat} {u : SX} {v : SY} (I : i_Rel k u v) (hk : k + 4 ≤ 2049) (v1 : Int32) (v2 : Int32) : wpX_same (fun r u' => wpY_same (fun r' v' => r' = r ∧ i_Rel (k + 4) u' v') v v1 v2) u v1 v2 := by
  obtain ⟨n, L, t, sh, pr, a, Be, co, h1, h8, hG, rfl, rfl⟩ := I
  obtain ⟨x, hxn, hx⟩ := Chi_n (T := tT L) h1
  have hb := dl_bound (tT L) h8 hx.1 (by omega) (fun _ => Chi_pre h1 hx)
  unfold wpX_same
  rcases pt_c v1 h8 with hp | ⟨i, hi, rfl⟩
  · refine x_pt0 hp (br_t rfl ?_)
    unfold wpY_same
    exact y_pt0 hp (br_t rfl ⟨rfl, rl_mk h1 h8 hG⟩)
  · rcases pt_c v2 h8 with hp | ⟨j, hj, rfl⟩
    · refine x_pt1 h8 hi (br_f (by decide) (x_pt0 hp (br_t rfl ?_)))
      unfold wpY_same
      exact y_pt1 h8 hi (br_f (by decide) (y_pt0 hp (br_t rfl ⟨rfl, rl_mk h1 h8 hG⟩)))
    · -- what the reference asks
      have Y : ∀ (r : Int32) (u' : SX), (∀ pr a Be co, i_Rel (k + 4) u' (nI n, pr, a, L, Be, co)) → ((∀ h, h ∈ dl (AF (tT L)) x n 0 (fun _ => 0) → h i = h j) → r = 1) → (¬ (∀ h, h ∈ dl (AF (tT L)) x n 0 (fun _ => 0) → h i = h j) → r = 0) → wpY_same (fun r' v' => r' = r ∧ i_Rel (k + 4) u' v') (nI n, pr, a, L, Be, co) (nI i) (nI j) := by
        intro r u' hR r1 r0
        unfold wpY_same
        refine y_pt1 h8 hi (br_f (by decide) (y_pt1 h8 hj (br_f (by decide) (y_chr h1 h8 hx (fun be co' h'' hA e2 hb2 m2 => y_begin (fun co1 hco1 => ?_))))))
        have eY : dl (AY be (((1 : Int32) <<< (nI n &&& 31)) - 1)) x n 0 (fun _ => 0) = dl (AF (tT L)) x n 0 (fun _ => 0) := dl_cg hA n 0 _ (by omega)
        refine y_s0 h1 h8 hx.1 (by omega) hi hj hco1 (by rw [eY]; exact hb) (fun z a' co'' => ⟨?_, hR _ _ _ _⟩) (fun z a' co'' => ⟨?_, hR _ _ _ _⟩)
        · rw [eY] at z
          exact (r1 z).symm
        · rw [eY] at z
          exact (r0 z).symm
      refine x_pt1 h8 hi (br_f (by decide) (x_pt1 h8 hj (br_f (by decide) (pk_eq i j (fun e => ?_) (fun e => ?_)))))
      · refine Y 1 _ (fun _ _ _ _ => rl_mk h1 h8 hG) (fun _ => rfl) (fun z => absurd (fun h _ => by rw [e]) z)
      · refine x_cp h8 (fun t' ht => ?_)
        obtain ⟨y, hyn, hy⟩ := Chi_n (T := tT (js L i j)) h1
        have hs := sm_iff h8 hi hj e hx hy
        refine x_lst h1 h8 (tT_cp ht) hx (fun sh' h' e1 m => x_link (by omega) (by omega) ?_)
        refine x_lst h1 h8 (js_cp h8 (by omega) (by omega) ht) hy (fun sh'' h'' e2 m2 => pk_le y x (fun le => ?_) (fun lt => ?_))
        · exact Y 0 _ (fun _ _ _ _ => rl_mk h1 h8 hG) (fun z => absurd z (hs.mp le)) (fun _ => rfl)
        · exact Y 1 _ (fun _ _ _ _ => rl_mk h1 h8 hG) (fun _ => rfl) (fun z => absurd (hs.mpr z) (by omega))
theorem js_jc {n i j : Nat} {L : Nat → Int32} (hn : n ≤ 8) (hi : i < n) (hj : j < n) (h1 : bt (L i) j = true) (h2 : bt (L j) i = true) : js (jc L i j) i j = L := by
  funext p
  apply b_ext
  intro q hq
  have e : bt (js (jc L i j) i j p) q = true ↔ bt (L p) q = true := by
    rw [js_b (by omega) (by omega) hq, jc_b (by omega) (by omega) hq]
    constructor
    · rintro (z | ⟨rfl, rfl⟩ | ⟨rfl, rfl⟩)
      · exact z.1
      · exact h1
      · exact h2
    · intro z
      by_cases w : (p = i ∧ q = j) ∨ (p = j ∧ q = i)
      · exact Or.inr w
      · exact Or.inl ⟨z, w⟩
  cases h3 : bt (js (jc L i j) i j p) q
  · cases h4 : bt (L p) q
    · rfl
    · rw [h3, h4] at e
      exact absurd (e.mpr rfl) (by decide)
  · exact (e.mp h3).symm
theorem i_vc_tight {k : Nat} {u : SX} {v : SY} (I : i_Rel k u v) (hk : k + 4 ≤ 2049) (v1 : Int32) (v2 : Int32) : wpX_tight (fun r u' => wpY_tight (fun r' v' => r' = r ∧ i_Rel (k + 4) u' v') v v1 v2) u v1 v2 := by
  obtain ⟨n, L, t, sh, pr, a, Be, co, h1, h8, hG, rfl, rfl⟩ := I
  obtain ⟨x, hxn, hx⟩ := Chi_n (T := tT L) h1
  unfold wpX_tight
  rcases pt_c v1 h8 with hp | ⟨i, hi, rfl⟩
  · refine x_pr0 h8 (Or.inl hp) (br_t rfl ?_)
    unfold wpY_tight
    exact y_pt0 hp (br_t rfl ⟨rfl, rl_mk h1 h8 hG⟩)
  · rcases pt_c v2 h8 with hp | ⟨j, hj, rfl⟩
    · refine x_pr0 h8 (Or.inr hp) (br_t rfl ?_)
      unfold wpY_tight
      exact y_pt1 h8 hi (br_f (by decide) (y_pt0 hp (br_t rfl ⟨rfl, rl_mk h1 h8 hG⟩)))
    · have ecl : (nI i).toNatClampNeg = i := nI_clamp (by omega)
      have Y0 : ¬ bt (L i) j = true → wpY_tight (fun r' v' => r' = 0 ∧ i_Rel (k + 4) (nI n, L, t, sh) v') (nI n, pr, a, L, Be, co) (nI i) (nI j) := by
        intro hn
        unfold wpY_tight
        exact y_pt1 h8 hi (br_f (by decide) (y_pt1 h8 hj (br_f (by decide) ⟨cb_in hi h8, cb_br (by omega) (fun z => absurd z (by rw [ecl]; exact hn)) (fun _ => br_t rfl ⟨rfl, rl_mk h1 h8 hG⟩)⟩)))
      refine x_pr1 h8 hi hj (fun e => br_t rfl ?_) (fun e => br_f (by decide) ⟨cb_in hi h8, cb_br (by omega) (fun b => br_f (by decide) ?_) (fun b => br_t rfl ?_)⟩)
      · subst e
        exact Y0 (hG.1 i hi)
      · rw [ecl] at b
        have b2 : bt (L j) i = true := (hG.2 i j hi hj).mp b
        obtain ⟨y, hyn, hy⟩ := Chi_n (T := tT (jc L i j)) h1
        have Y1 : ∀ (r : Int32) (u' : SX), (∀ pr a Be co, i_Rel (k + 4) u' (nI n, pr, a, L, Be, co)) → (x ≤ y → r = 0) → (y < x → r = 1) → wpY_tight (fun r' v' => r' = r ∧ i_Rel (k + 4) u' v') (nI n, pr, a, L, Be, co) (nI i) (nI j) := by
          intro r u' hR r0 r1
          unfold wpY_tight
          refine y_pt1 h8 hi (br_f (by decide) (y_pt1 h8 hj (br_f (by decide) ⟨cb_in hi h8, cb_br (by omega) (fun z => br_f (by decide) ?_) (fun z => absurd (by rw [ecl]; exact b) z)⟩)))
          refine y_chr h1 h8 hx (fun be co' h'' hA e2 hb2 m2 => y_put0 h8 hi hj ?_)
          refine y_chr h1 h8 hy (fun be co' h'' hA e2 hb2 m2 => y_put1 (by decide) h8 hi hj ?_)
          rw [js_jc h8 hi hj b b2]
          exact pk_le x y (fun le => ⟨(r0 le).symm, hR _ _ _ _⟩) (fun lt => ⟨(r1 lt).symm, hR _ _ _ _⟩)
        refine x_cp h8 (fun t' ht => ?_)
        refine x_lst h1 h8 (tT_cp ht) hx (fun sh' h' e1 m => x_unlink (by omega) (by omega) ?_)
        refine x_lst h1 h8 (jc_cp h8 (by omega) (by omega) ht) hy (fun sh'' h'' e2 m2 => pk_le x y (fun le => ?_) (fun lt => ?_))
        · exact Y1 0 _ (fun _ _ _ _ => rl_mk h1 h8 hG) (fun _ => rfl) (fun z => by omega)
        · exact Y1 1 _ (fun _ _ _ _ => rl_mk h1 h8 hG) (fun z => by omega) (fun _ => rfl)
      · rw [ecl] at b
        exact Y0 b
end
section
/-! needed, together; our own -/
/-- the links without point p -/
def Tw (L : Nat → Int32) (p a b : Nat) : Prop := tT L a b ∧ a ≠ p ∧ b ≠ p
theorem x_nd {post : Int32 → SX → Prop} {n p x y : Nat} {L : Nat → Int32} (hn1 : 1 ≤ n) (hn : n ≤ 8) (hp : p < n) (hx8 : x ≤ 8) (hy : Chi (Col (Tw L p) n) y) (P0 : x ≤ y → ∀ t sh, post 0 (nI n, L, t, sh)) (P1 : y < x → ∀ t sh, post 1 (nI n, L, t, sh)) : ∀ d q, q + d = n → ∀ (t sh : Nat → Int32), (∀ a b, a < n → b < n → (tT t a b ↔ (tT L a b ∧ ¬ (a = p ∧ b < q) ∧ ¬ (b = p ∧ a < q)))) → ∀ fuel, d < fuel → wX_needed_31 post (nI p) (nI x) fuel (nI q) (nI n) L t sh := by
  have hyn := Chi_le hn1 hy
  intro d
  induction d with
  | zero =>
    intro q hq t sh ht fuel hfu
    obtain ⟨m, rfl⟩ : ∃ m, fuel = m + 1 := ⟨fuel - 1, by omega⟩
    refine br_t (nI_le (by omega) (by omega)) (x_lst hn1 hn (T := Tw L p) (fun a b ha hb => ?_) hy (fun sh' h' e m2 => pk_le x y (fun le => P0 le _ _) (fun lt => P1 lt _ _)))
    rw [ht a b ha (by omega)]
    unfold Tw
    refine and_congr Iff.rfl ?_
    omega
  | succ d ih =>
    intro q hq t sh ht fuel hfu
    obtain ⟨m, rfl⟩ : ∃ m, fuel = m + 1 := ⟨fuel - 1, by omega⟩
    refine br_f (nI_ge (by omega) (by omega)) (x_unlink (by omega) (by omega) (nm_r (nI_1 q) (ih (q + 1) (by omega) _ sh (fun a b ha hb => ?_) m (by omega))))
    have e := ht a b ha hb
    unfold tT at e ⊢
    rw [jc_b (by omega) (by omega) (by omega), e, and_assoc]
    refine and_congr Iff.rfl ?_
    omega
/-- the points but p -/
theorem cb_wo {n p q : Nat} (hn : n ≤ 8) (hp : p < n) (hq : q < n) : bt ((((1 : Int32) <<< (nI n &&& 31)) - 1) &&& (((1 : Int32) <<< (nI p &&& 31)) ^^^ (-1))) q = true ↔ q ≠ p := by
  rw [cb_clr _ _ _ (by omega) (by omega), cb_all n (by omega) q (by omega), decide_eq_true hq]
  simp
theorem nd_iff {n p k : Nat} {L be : Nat → Int32} (hn : n ≤ 8) (hp : p < n) (hk : 1 ≤ k) (hb : ∀ i, i < n → be i = L i &&& ((((1 : Int32) <<< (nI n &&& 31)) - 1) &&& (((1 : Int32) <<< (nI p &&& 31)) ^^^ (-1)))) : CY be ((((1 : Int32) <<< (nI n &&& 31)) - 1) &&& (((1 : Int32) <<< (nI p &&& 31)) ^^^ (-1))) n k ↔ Col (Tw L p) n k := by
  have e2 : ∀ a b, a < n → b < n → (bt (be a) b = true ↔ bt (L a) b = true ∧ b ≠ p) := by
    intro a b ha hb'
    rw [hb a ha, b_and, Bool.and_eq_true, cb_wo hn hp hb']
  constructor
  · rintro ⟨f, hf⟩
    refine ⟨f, fun a ha => ⟨(hf a ha).1, fun b hb' t => ?_⟩⟩
    exact (hf a ha).2.1 ((cb_wo hn hp ha).mpr t.2.1) b hb' ((e2 a b ha (by omega)).mpr ⟨t.1, t.2.2⟩) ((cb_wo hn hp (by omega)).mpr t.2.2)
  · rintro ⟨f, hf⟩
    refine ⟨fu f p 0, fun a ha => ?_⟩
    by_cases e : a = p
    · subst e
      rw [fu_s]
      refine ⟨hk, fun z => absurd rfl ((cb_wo hn hp ha).mp z), fun _ => rfl⟩
    · rw [fu_n e]
      refine ⟨(hf a ha).1, fun z b hb' t1 t2 => ?_, fun z => absurd ((cb_wo hn hp ha).mpr e) z⟩
      have ne : b ≠ p := (cb_wo hn hp (by omega)).mp t2
      rw [fu_n ne]
      exact (hf a ha).2 b hb' ⟨((e2 a b ha (by omega)).mp t1).1, e, ne⟩
theorem i_vc_needed {k : Nat} {u : SX} {v : SY} (I : i_Rel k u v) (hk : k + 4 ≤ 2049) (v1 : Int32) : wpX_needed (fun r u' => wpY_needed (fun r' v' => r' = r ∧ i_Rel (k + 4) u' v') v v1) u v1 := by
  obtain ⟨n, L, t, sh, pr, a, Be, co, h1, h8, hG, rfl, rfl⟩ := I
  obtain ⟨x, hxn, hx⟩ := Chi_n (T := tT L) h1
  unfold wpX_needed
  rcases pt_c v1 h8 with hp | ⟨p, hp, rfl⟩
  · refine x_pt0 hp (br_t rfl ?_)
    unfold wpY_needed
    exact y_pt0 hp (br_t rfl ⟨rfl, rl_mk h1 h8 hG⟩)
  · refine x_pt1 h8 hp (br_f (by decide) (pk_eq n 1 (fun e => ?_) (fun e => ?_)))
    · subst e
      have e0 : p = 0 := by omega
      subst e0
      have hx1 := hx.1
      unfold wpY_needed
      refine y_pt1 h8 hp (br_f (by decide) (y_chr h1 h8 hx (fun be co' h'' hA e2 hb2 m2 => nm_e (y_cp h8 (fun b hb => ?_)))))
      refine br_t (by decide) (pk_le x 0 (fun le => by omega) (fun lt => ⟨rfl, rl_mk h1 h8 hG⟩))
    · obtain ⟨y, hyn, hy⟩ := Chi_n (T := Tw L p) h1
      have Y : ∀ (r : Int32) (u' : SX), (∀ pr a Be co, i_Rel (k + 4) u' (nI n, pr, a, L, Be, co)) → (x ≤ y → r = 0) → (y < x → r = 1) → wpY_needed (fun r' v' => r' = r ∧ i_Rel (k + 4) u' v') (nI n, pr, a, L, Be, co) (nI p) := by
        intro r u' hR r0 r1
        unfold wpY_needed
        refine y_pt1 h8 hp (br_f (by decide) (y_chr h1 h8 hx (fun be co' h'' hA e2 hb2 m2 => nm_e (y_cp h8 (fun b hb => ?_)))))
        refine y_few h1 h8 ?_ (by omega) (Chi_cg (fun j hj => (nd_iff h8 hp hj hb).symm) hy) (fun co'' g e3 hb3 m3 => pk_le x y (fun le => ⟨(r0 le).symm, hR _ _ _ _⟩) (fun lt => ⟨(r1 lt).symm, hR _ _ _ _⟩))
        intro z
        by_cases w : p = 0
        · have := (cb_wo h8 hp (q := 1) (by omega)).mpr (by omega)
          rw [z, b_0] at this
          cases this
        · have := (cb_wo h8 hp (q := 0) (by omega)).mpr (by omega)
          rw [z, b_0] at this
          cases this
      refine x_cp h8 (fun t' ht => ?_)
      refine x_lst h1 h8 (tT_cp ht) hx (fun sh' h' e1 m => ⟨n + 1, ?_⟩)
      refine x_nd h1 h8 hp (by omega) hy (fun le t sh => ?_) (fun lt t sh => ?_) n 0 (by omega) _ _ (fun a b ha hb => ?_) (n + 1) (by omega)
      · exact Y 0 _ (fun _ _ _ _ => rl_mk h1 h8 hG) (fun _ => rfl) (fun z => by omega)
      · exact Y 1 _ (fun _ _ _ _ => rl_mk h1 h8 hG) (fun z => by omega) (fun _ => rfl)
      · unfold tT
        rw [ht a ha]
        refine ⟨fun z => ⟨z, by omega, by omega⟩, fun z => z.1⟩
/-- the links with all of u's given to v -/
def Tg (L : Nat → Int32) (u v a b : Nat) : Prop := tT L a b ∨ (a = v ∧ bt (L u) b = true) ∨ (b = v ∧ bt (L u) a = true)
theorem x_tg {post : Int32 → SX → Prop} {n u v y : Nat} {L : Nat → Int32} (hn1 : 1 ≤ n) (hn : n ≤ 8) (hu : u < n) (hv : v < n) (hy : Chi (Col (Tg L u v) n) y) (P : ∀ t sh, post (nI y) (nI n, L, t, sh)) : ∀ d q, q + d = n → ∀ (t sh : Nat → Int32), (∀ a b, a < n → b < n → (tT t a b ↔ (tT L a b ∨ (a = v ∧ b < q ∧ bt (L u) b = true) ∨ (b = v ∧ a < q ∧ bt (L u) a = true)))) → ∀ fuel, d < fuel → wX_together_33 post (nI u) (nI v) fuel (nI q) (nI n) L t sh := by
  intro d
  induction d with
  | zero =>
    intro q hq t sh ht fuel hfu
    obtain ⟨m, rfl⟩ : ∃ m, fuel = m + 1 := ⟨fuel - 1, by omega⟩
    refine br_t (nI_le (by omega) (by omega)) (x_lst hn1 hn (T := Tg L u v) (fun a b ha hb => ?_) hy (fun sh' h' e m2 => P _ _))
    rw [ht a b ha (by omega)]
    unfold Tg
    constructor
    · rintro (z | z | z)
      · exact Or.inl z
      · exact Or.inr (Or.inl ⟨z.1, z.2.2⟩)
      · exact Or.inr (Or.inr ⟨z.1, z.2.2⟩)
    · rintro (z | z | z)
      · exact Or.inl z
      · exact Or.inr (Or.inl ⟨z.1, by omega, z.2⟩)
      · exact Or.inr (Or.inr ⟨z.1, by omega, z.2⟩)
  | succ d ih =>
    intro q hq t sh ht fuel hfu
    obtain ⟨m, rfl⟩ : ∃ m, fuel = m + 1 := ⟨fuel - 1, by omega⟩
    have ecl : (nI u).toNatClampNeg = u := nI_clamp (by omega)
    refine br_f (nI_ge (by omega) (by omega)) ⟨cb_in hu hn, cb_br (by omega) (fun b1 => br_f (by decide) ?_) (fun b1 => br_t rfl ?_)⟩
    · rw [ecl] at b1
      refine x_link (by omega) (by omega) (nm_r (nI_1 q) (ih (q + 1) (by omega) _ sh (fun a b ha hb => ?_) m (by omega)))
      have e := ht a b ha hb
      unfold tT at e ⊢
      rw [js_b (by omega) (by omega) (by omega), e]
      constructor
      · rintro ((z | z | z) | ⟨rfl, rfl⟩ | ⟨rfl, rfl⟩)
        · exact Or.inl z
        · exact Or.inr (Or.inl ⟨z.1, by omega, z.2.2⟩)
        · exact Or.inr (Or.inr ⟨z.1, by omega, z.2.2⟩)
        · exact Or.inr (Or.inl ⟨rfl, by omega, b1⟩)
        · exact Or.inr (Or.inr ⟨rfl, by omega, b1⟩)
      · rintro (z | ⟨rfl, z1, z2⟩ | ⟨rfl, z1, z2⟩)
        · exact Or.inl (Or.inl z)
        · by_cases w : b = q
          · exact Or.inr (Or.inl ⟨rfl, w⟩)
          · exact Or.inl (Or.inr (Or.inl ⟨rfl, by omega, z2⟩))
        · by_cases w : a = q
          · exact Or.inr (Or.inr ⟨w, rfl⟩)
          · exact Or.inl (Or.inr (Or.inr ⟨rfl, by omega, z2⟩))
    · rw [ecl] at b1
      refine nm_r (nI_1 q) (ih (q + 1) (by omega) t sh (fun a b ha hb => ?_) m (by omega))
      rw [ht a b ha hb]
      constructor
      · rintro (z | z | z)
        · exact Or.inl z
        · exact Or.inr (Or.inl ⟨z.1, by omega, z.2.2⟩)
        · exact Or.inr (Or.inr ⟨z.1, by omega, z.2.2⟩)
      · rintro (z | ⟨rfl, z1, z2⟩ | ⟨rfl, z1, z2⟩)
        · exact Or.inl z
        · by_cases w : b = q
          · subst w; exact absurd z2 b1
          · exact Or.inr (Or.inl ⟨rfl, by omega, z2⟩)
        · by_cases w : a = q
          · subst w; exact absurd z2 b1
          · exact Or.inr (Or.inr ⟨rfl, by omega, z2⟩)
/-- a colouring of all points in which u and v have one colour -/
def Mg (L : Nat → Int32) (n u v k : Nat) : Prop := ∃ f : Nat → Nat, (∀ a, a < n → f a < k) ∧ (∀ a b, a < n → b < n → bt (L a) b = true → f a ≠ f b) ∧ f u = f v
theorem tg_mg {n u v k : Nat} {L : Nat → Int32} (hG : Gr n L) (hu : u < n) (hv : v < n) (huv : ¬ bt (L u) v = true) : Col (Tg L u v) n k ↔ Mg L n u v k := by
  constructor
  · rintro ⟨f, hf⟩
    -- both ways round
    have hs : ∀ a b, a < n → b < n → a ≠ b → (Tg L u v a b ∨ Tg L u v b a) → f a ≠ f b := by
      intro a b ha hb hab ht
      have sym : ∀ c d, c < n → d < n → Tg L u v c d → Tg L u v d c := by
        rintro c d hc hd (z | z | z)
        · exact Or.inl ((hG.2 c d hc hd).mp z)
        · exact Or.inr (Or.inr z)
        · exact Or.inr (Or.inl z)
      have h1 : Tg L u v a b := by
        rcases ht with z | z
        · exact z
        · exact sym b a hb ha z
      rcases Nat.lt_or_gt_of_ne hab with z | z
      · exact (hf b hb).2 a z (sym a b ha hb h1)
      · exact fun w => (hf a ha).2 b z h1 w.symm
    have hvb : ∀ b, b < n → bt (L u) b = true → f v ≠ f b := by
      intro b hb t
      have ne : v ≠ b := by
        intro w
        subst w
        exact huv t
      exact hs v b hv hb ne (Or.inl (Or.inr (Or.inl ⟨rfl, t⟩)))
    refine ⟨fu f u (f v), fun a ha => ?_, fun a b ha hb t => ?_, ?_⟩
    · by_cases e : a = u
      · subst e; rw [fu_s]; exact (hf v hv).1
      · rw [fu_n e]; exact (hf a ha).1
    · by_cases e : a = u
      · subst e
        have ne : b ≠ a := by
          intro w
          subst w
          exact hG.1 b hb t
        rw [fu_s, fu_n ne]
        exact hvb b hb t
      · rw [fu_n e]
        by_cases e' : b = u
        · subst e'
          rw [fu_s]
          exact fun w => hvb a ha ((hG.2 a b ha hb).mp t) w.symm
        · rw [fu_n e']
          have ne : a ≠ b := by
            intro w
            subst w
            exact hG.1 a ha t
          exact hs a b ha hb ne (Or.inl (Or.inl t))
    · rw [fu_s]
      by_cases e : v = u
      · rw [e, fu_s]
      · rw [fu_n e]
  · rintro ⟨f, f1, f2, f3⟩
    refine ⟨f, fun a ha => ⟨f1 a ha, fun b hb t w => ?_⟩⟩
    rcases t with t | ⟨rfl, t⟩ | ⟨rfl, t⟩
    · exact f2 a b ha (by omega) t w.symm
    · exact f2 u b hu (by omega) t (by rw [f3, w])
    · exact f2 u a hu ha t (by rw [f3, w])
theorem cy_mg {n u v k : Nat} {L be : Nat → Int32} (hn : n ≤ 8) (hG : Gr n L) (hu : u < n) (hv : v < n) (ne : u ≠ v) (huv : ¬ bt (L u) v = true) (hk : 1 ≤ k) (hb1 : ∀ q, q < n → (bt (be u) q = true ↔ (bt (L u) q = true ∨ bt (L v) q = true))) (hb2 : ∀ p q, p < n → q < n → p ≠ u → (bt (be p) q = true ↔ ((bt (L p) q = true ∧ q ≠ v) ∨ (q = u ∧ (bt (L u) p = true ∨ bt (L v) p = true))))) : CY be ((((1 : Int32) <<< (nI n &&& 31)) - 1) &&& (((1 : Int32) <<< (nI v &&& 31)) ^^^ (-1))) n k ↔ Mg L n u v k := by
  have hvu : ¬ bt (L v) u = true := fun z => huv ((hG.2 v u hv hu).mp z)
  constructor
  · rintro ⟨f, hf⟩
    have hs : ∀ a b, a < n → b < a → a ≠ v → b ≠ v → bt (be a) b = true → f b ≠ f a := fun a b ha hb a1 b1 t => (hf a ha).2.1 ((cb_wo hn hv ha).mpr a1) b hb t ((cb_wo hn hv (by omega)).mpr b1)
    -- points other than v
    have h1 : ∀ a b, a < n → b < n → a ≠ v → b ≠ v → bt (L a) b = true → f a ≠ f b := by
      have h0 : ∀ a b, a < n → b < a → a ≠ v → b ≠ v → bt (L a) b = true → f b ≠ f a := by
        intro a b ha hb a1 b1 t
        refine hs a b ha hb a1 b1 ?_
        by_cases e : a = u
        · subst e; exact (hb1 b (by omega)).mpr (Or.inl t)
        · exact (hb2 a b ha (by omega) e).mpr (Or.inl ⟨t, b1⟩)
      intro a b ha hb a1 b1 t
      rcases Nat.lt_trichotomy a b with z | z | z
      · exact h0 b a hb z b1 a1 ((hG.2 a b ha hb).mp t)
      · subst z; exact absurd t (hG.1 a ha)
      · exact fun w => h0 a b ha z a1 b1 t w.symm
    -- v's neighbours against u
    have h2 : ∀ b, b < n → bt (L v) b = true → f u ≠ f b := by
      intro b hb t
      have b1 : b ≠ v := fun w => hG.1 v hv (by rw [w] at t; exact t)
      have b2 : b ≠ u := fun w => hvu (by rw [w] at t; exact t)
      rcases Nat.lt_or_gt_of_ne b2 with z | z
      · exact fun w => hs u b hu z ne b1 ((hb1 b hb).mpr (Or.inr t)) w.symm
      · exact hs b u hb z b1 ne ((hb2 b u hb hu b2).mpr (Or.inr ⟨rfl, Or.inr t⟩))
    refine ⟨fu f v (f u), fun a ha => ?_, fun a b ha hb t => ?_, ?_⟩
    · by_cases e : a = v
      · subst e; rw [fu_s]; exact (hf u hu).1
      · rw [fu_n e]; exact (hf a ha).1
    · by_cases e : a = v
      · subst e
        have b1 : b ≠ a := fun w => hG.1 a ha (by rw [w] at t; exact t)
        rw [fu_s, fu_n b1]
        exact h2 b hb t
      · rw [fu_n e]
        by_cases e' : b = v
        · subst e'
          rw [fu_s]
          exact fun w => h2 a ha ((hG.2 a b ha hb).mp t) w.symm
        · rw [fu_n e']
          exact h1 a b ha hb e e' t
    · rw [fu_n ne, fu_s]
  · rintro ⟨f, f1, f2, f3⟩
    refine ⟨fu f v 0, fun a ha => ?_⟩
    by_cases e : a = v
    · subst e
      rw [fu_s]
      exact ⟨hk, fun z => absurd rfl ((cb_wo hn hv ha).mp z), fun _ => rfl⟩
    · rw [fu_n e]
      refine ⟨f1 a ha, fun z b hb' t1 t2 => ?_, fun z => absurd ((cb_wo hn hv ha).mpr e) z⟩
      have b1 : b ≠ v := (cb_wo hn hv (by omega)).mp t2
      rw [fu_n b1]
      by_cases w : a = u
      · subst w
        rcases (hb1 b (by omega)).mp t1 with s | s
        · exact fun w => f2 a b ha (by omega) s w.symm
        · exact fun w => f2 v b hv (by omega) s (by rw [← f3, w])
      · rcases (hb2 a b ha (by omega) w).mp t1 with s | ⟨rfl, s | s⟩
        · exact fun w => f2 a b ha (by omega) s.1 w.symm
        · exact fun w => f2 b a hu ha s w
        · exact fun w => f2 v a hv ha s (by rw [← f3, w])
/-- the rows of the merged graph -/
def bg (L : Nat → Int32) (u v p : Nat) : Int32 := if bt (L u ||| L v) p = true then (L p &&& (((1 : Int32) <<< (nI v &&& 31)) ^^^ (-1))) ||| ((1 : Int32) <<< (nI u &&& 31)) else L p &&& (((1 : Int32) <<< (nI v &&& 31)) ^^^ (-1))
theorem bg_b {L : Nat → Int32} {u v p q : Nat} (hu : u < 8) (hv : v < 8) (hq : q < 32) : bt (bg L u v p) q = true ↔ ((bt (L p) q = true ∧ q ≠ v) ∨ (q = u ∧ (bt (L u) p = true ∨ bt (L v) p = true))) := by
  unfold bg
  by_cases h : bt (L u ||| L v) p = true
  · rw [if_pos h, cb_set _ _ _ hu hq, cb_clr _ _ _ hv hq]
    rw [b_or, Bool.or_eq_true] at h
    simp [h]
  · rw [if_neg h, cb_clr _ _ _ hv hq]
    rw [b_or, Bool.or_eq_true] at h
    simp [h]
theorem y_tg {post : Int32 → SY → Prop} {n u v : Nat} {pr a : Int32} {L co : Nat → Int32} (hn : n ≤ 8) (hu : u < n) (hv : v < n) (P : ∀ b : Nat → Int32, (b u = (L u ||| L v)) → (∀ p, p < n → p ≠ u → b p = bg L u v p) → wY_together_142 post (nI n) pr a L b co) : ∀ d p, p + d = n → ∀ b : Nat → Int32, (∀ i, i < p → b i = bg L u v i) → ∀ fuel, d < fuel → wY_together_72 post (nI u) (nI v) (L u ||| L v) (nI n) pr a fuel (nI p) L b co := by
  intro d
  induction d with
  | zero =>
    intro p hp b hb fuel hfu
    obtain ⟨m, rfl⟩ : ∃ m, fuel = m + 1 := ⟨fuel - 1, by omega⟩
    refine br_t (nI_le (by omega) (by omega)) ⟨cb_in hu hn, nm_r (e' := upd b u (L u ||| L v)) (by rw [nI_clamp (by omega)]) (P _ pk_us (fun i hi ne => ?_))⟩
    rw [pk_un ne]
    exact hb i (by omega)
  | succ d ih =>
    intro p hp b hb fuel hfu
    obtain ⟨m, rfl⟩ : ∃ m, fuel = m + 1 := ⟨fuel - 1, by omega⟩
    have ii : vp_in (nI p) 8 := vp_in_nI (by omega) (by omega)
    refine br_f (nI_ge (by omega) (by omega)) ⟨ii, ii, nm_r (e' := upd b p (L p &&& (((1 : Int32) <<< (nI v &&& 31)) ^^^ (-1)))) (by rw [nI_clamp (by omega)]) (cb_br (by omega) (fun b1 => br_f (by decide) ⟨ii, ii, nm_r (e' := upd (upd b p (L p &&& (((1 : Int32) <<< (nI v &&& 31)) ^^^ (-1)))) p ((L p &&& (((1 : Int32) <<< (nI v &&& 31)) ^^^ (-1))) ||| ((1 : Int32) <<< (nI u &&& 31)))) (by rw [nI_clamp (by omega), pk_us]) (nm_r (nI_1 p) (ih (p + 1) (by omega) _ (fun i hi => ?_) m (by omega)))⟩) (fun b1 => br_t rfl (nm_r (nI_1 p) (ih (p + 1) (by omega) _ (fun i hi => ?_) m (by omega)))))⟩
    · by_cases e : i = p
      · subst e
        rw [pk_us, bg, if_pos b1]
      · rw [pk_un e, pk_un e]
        exact hb i (by omega)
    · by_cases e : i = p
      · subst e
        rw [pk_us, bg, if_neg b1]
      · rw [pk_un e]
        exact hb i (by omega)
theorem i_vc_together {k : Nat} {u : SX} {v : SY} (I : i_Rel k u v) (hk : k + 4 ≤ 2049) (v1 : Int32) (v2 : Int32) : wpX_together (fun r u' => wpY_together (fun r' v' => r' = r ∧ i_Rel (k + 4) u' v') v v1 v2) u v1 v2 := by
  obtain ⟨n, L, t, sh, pr, a, Be, co, h1, h8, hG, rfl, rfl⟩ := I
  unfold wpX_together
  rcases pt_c v1 h8 with hp | ⟨i, hi, rfl⟩
  · refine x_pt0 hp (br_t rfl ?_)
    unfold wpY_together
    exact y_pt0 hp (br_t rfl ⟨rfl, rl_mk h1 h8 hG⟩)
  · rcases pt_c v2 h8 with hp | ⟨j, hj, rfl⟩
    · refine x_pt1 h8 hi (br_f (by decide) (x_pt0 hp (br_t rfl ?_)))
      unfold wpY_together
      exact y_pt1 h8 hi (br_f (by decide) (y_pt0 hp (br_t rfl ⟨rfl, rl_mk h1 h8 hG⟩)))
    · have ecl : (nI i).toNatClampNeg = i := nI_clamp (by omega)
      have ecj : (nI j).toNatClampNeg = j := nI_clamp (by omega)
      refine x_pt1 h8 hi (br_f (by decide) (x_pt1 h8 hj (br_f (by decide) ⟨cb_in hi h8, cb_br (by omega) (fun b => br_f (by decide) ?_) (fun b => br_t rfl ?_)⟩)))
      · unfold wpY_together
        exact y_pt1 h8 hi (br_f (by decide) (y_pt1 h8 hj (br_f (by decide) ⟨cb_in hi h8, cb_br (by omega) (fun _ => br_f (by decide) ⟨rfl, rl_mk h1 h8 hG⟩) (fun z => absurd b z)⟩)))
      · obtain ⟨y, hyn, hy⟩ := Chi_n (T := Tg L i j) h1
        have b0 := b
        rw [ecl] at b0
        refine x_cp h8 (fun t' ht => ⟨n + 1, ?_⟩)
        refine x_tg h1 h8 hi hj hy (fun t sh => ?_) n 0 (by omega) _ _ (fun p q hp hq => ?_) (n + 1) (by omega)
        · unfold wpY_together
          refine y_pt1 h8 hi (br_f (by decide) (y_pt1 h8 hj (br_f (by decide) ⟨cb_in hi h8, cb_br (by omega) (fun z => absurd z b) (fun _ => br_t rfl ?_)⟩)))
          refine y_cpA h8 (fun be hbe => ?_)
          refine pk_eq i j (fun e => ?_) (fun e => ?_)
          · subst e
            unfold wY_together_142
            have hT : ∀ p q, p < n → q < p → (Tg L i i p q ↔ tT L p q) := by
              intro p q hp hq
              constructor
              · rintro (z | ⟨rfl, z⟩ | ⟨rfl, z⟩)
                · exact z
                · exact z
                · exact (hG.2 q p hi hp).mp z
              · exact fun z => Or.inl z
            exact y_lst h1 h8 (y_all h1 h8) (fun p f c hp => y_full h8 hbe hp) (Chi_cg (fun m _ => Col_cg hT m) hy) (fun co' h' e2 hb2 m2 => ⟨rfl, rl_mk h1 h8 hG⟩)
          · refine ⟨cb_in hi h8, cb_in hj h8, nm_r (e' := L i ||| L j) (by rw [ecl, ecj]) (nm_e ⟨n + 1, ?_⟩)⟩
            refine y_tg h8 hi hj (fun b hb1 hb2 => ?_) n 0 (by omega) be (fun i hi => by omega) (n + 1) (by omega)
            unfold wY_together_142
            have c1 : ∀ q, q < n → (bt (b i) q = true ↔ (bt (L i) q = true ∨ bt (L j) q = true)) := fun q hq => by rw [hb1, b_or, Bool.or_eq_true]
            have c2 : ∀ p q, p < n → q < n → p ≠ i → (bt (b p) q = true ↔ ((bt (L p) q = true ∧ q ≠ j) ∨ (q = i ∧ (bt (L i) p = true ∨ bt (L j) p = true)))) := fun p q hp hq ne => by rw [hb2 p hp ne, bg_b (by omega) (by omega) (by omega)]
            refine y_few h1 h8 ?_ (by omega) (Chi_cg (fun m hm => (tg_mg hG hi hj b0).trans (cy_mg h8 hG hi hj e b0 hm c1 c2).symm) hy) (fun co' h' e2 hb3 m2 => ⟨rfl, rl_mk h1 h8 hG⟩)
            intro z
            have := (cb_wo h8 hj hi).mpr e
            rw [z, b_0] at this
            cases this
        · unfold tT
          rw [ht p hp]
          refine ⟨fun z => Or.inl z, ?_⟩
          rintro (z | z | z)
          · exact z
          · omega
          · omega
end
