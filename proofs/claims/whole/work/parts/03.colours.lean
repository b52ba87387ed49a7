/-! sums over colours, exchange of two colours, first colourings, counts; our own -/
def sl (F : Nat → Nat) : Nat → Nat → Nat
  | 0, _ => 0
  | r + 1, c => F c + sl F r (c + 1)
theorem sl_1 {F : Nat → Nat} {r c : Nat} : sl F (r + 1) c = F c + sl F r (c + 1) := rfl
theorem sl_cg {F G : Nat → Nat} : ∀ r c, (∀ i, c ≤ i → i < c + r → F i = G i) → sl F r c = sl G r c := by
  intro r
  induction r with
  | zero => intro c _; rfl
  | succ r ih =>
    intro c h
    show F c + sl F r (c + 1) = G c + sl G r (c + 1)
    rw [h c (by omega) (by omega), ih (c + 1) (fun i h1 h2 => h i (by omega) (by omega))]
theorem sl_k {F : Nat → Nat} (x : Nat) : ∀ r c, (∀ i, c ≤ i → i < c + r → F i = x) → sl F r c = r * x := by
  intro r
  induction r with
  | zero => intro c _; rw [Nat.zero_mul]; rfl
  | succ r ih =>
    intro c h
    show F c + sl F r (c + 1) = _
    rw [h c (by omega) (by omega), ih (c + 1) (fun i h1 h2 => h i (by omega) (by omega)), Nat.succ_mul, Nat.add_comm]
theorem sl_split {F : Nat → Nat} : ∀ a b c, sl F (a + b) c = sl F a c + sl F b (c + a) := by
  intro a
  induction a with
  | zero => intro b c; rw [Nat.zero_add, Nat.add_zero]; exact (Nat.zero_add _).symm
  | succ a ih =>
    intro b c
    rw [show a + 1 + b = (a + b) + 1 by omega]
    show F c + sl F (a + b) (c + 1) = F c + sl F a (c + 1) + _
    rw [ih b (c + 1), show c + 1 + a = c + (a + 1) by omega]
    omega
theorem sl_fu {F : Nat → Nat} {a x : Nat} : ∀ r c, c ≤ a → a < c + r → sl (fu F a x) r c + F a = sl F r c + x := by
  intro r
  induction r with
  | zero => intro c h1 h2; omega
  | succ r ih =>
    intro c h1 h2
    show fu F a x c + sl (fu F a x) r (c + 1) + F a = F c + sl F r (c + 1) + x
    by_cases e : a = c
    · subst e
      rw [fu_s, sl_cg (F := fu F a x) (G := F) r (a + 1) (fun i h3 h4 => fu_n (by omega))]
      omega
    · have := ih (c + 1) (by omega) (by omega)
      rw [fu_n (by omega)]
      omega
theorem sl_mul {F : Nat → Nat} (x : Nat) : ∀ r c, sl (fun i => x * F i) r c = x * sl F r c := by
  intro r
  induction r with
  | zero => intro c; rfl
  | succ r ih =>
    intro c
    show x * F c + sl (fun i => x * F i) r (c + 1) = x * (F c + sl F r (c + 1))
    rw [ih (c + 1), Nat.mul_add]
/-- two colours exchanged -/
def sw (a b : Nat) (c : Nat) : Nat := if c = a then b else if c = b then a else c
theorem sw_a (a b : Nat) : sw a b a = b := if_pos rfl
theorem sw_b (a b : Nat) : sw a b b = a := by
  unfold sw
  by_cases h : b = a
  · rw [if_pos h, h]
  · rw [if_neg h, if_pos rfl]
theorem sw_o {a b c : Nat} (h1 : c ≠ a) (h2 : c ≠ b) : sw a b c = c := by
  unfold sw; rw [if_neg h1, if_neg h2]
theorem sw_sw (a b c : Nat) : sw a b (sw a b c) = c := by
  by_cases h1 : c = a
  · subst h1; rw [sw_a, sw_b]
  · by_cases h2 : c = b
    · subst h2; rw [sw_b, sw_a]
    · rw [sw_o h1 h2, sw_o h1 h2]
theorem sw_inj {a b c d : Nat} (h : sw a b c = sw a b d) : c = d := by
  rw [← sw_sw a b c, h, sw_sw]
theorem sw_lt {a b c k : Nat} (ha : a < k) (hb : b < k) (hc : c < k) : sw a b c < k := by
  by_cases h1 : c = a
  · subst h1; rw [sw_a]; exact hb
  · by_cases h2 : c = b
    · subst h2; rw [sw_b]; exact ha
    · rw [sw_o h1 h2]; exact hc
theorem sl_sw {F : Nat → Nat} {a b k : Nat} (ha : a < k) (hb : b < k) : sl (fun c => F (sw a b c)) k 0 = sl F k 0 := by
  by_cases e : a = b
  · subst e
    refine sl_cg k 0 (fun i _ _ => ?_)
    by_cases h : i = a
    · subst h; rw [sw_a]
    · rw [sw_o h h]
  · have e1 := sl_fu (F := F) (a := a) (x := F b) k 0 (by omega) (by omega)
    have e2 := sl_fu (F := fu F a (F b)) (a := b) (x := F a) k 0 (by omega) (by omega)
    rw [fu_n (show b ≠ a by omega)] at e2
    have e3 : sl (fun c => F (sw a b c)) k 0 = sl (fu (fu F a (F b)) b (F a)) k 0 := by
      refine sl_cg k 0 (fun i _ _ => ?_)
      by_cases h1 : i = b
      · subst h1; rw [sw_b, fu_s]
      · by_cases h2 : i = a
        · subst h2; rw [sw_a, fu_n h1, fu_s]
        · rw [sw_o h2 h1, fu_n h1, fu_n h2]
    omega
theorem ds_len {α : Type} {g : Nat → List α} : ∀ r c, (ds g r c).length = sl (fun i => (g i).length) r c := by
  intro r
  induction r with
  | zero => intro c; rfl
  | succ r ih =>
    intro c
    show (g c ++ ds g r (c + 1)).length = (g c).length + sl (fun i => (g i).length) r (c + 1)
    rw [List.length_append, ih]
/-- p may take c beside the points before it -/
def AF (T : Nat → Nat → Prop) (p : Nat) (f : Nat → Nat) (c : Nat) : Prop := ∀ q, q < p → T p q → f q ≠ c
/-- the least colour above all those before p -/
def fU (f : Nat → Nat) : Nat → Nat
  | 0 => 0
  | q + 1 => if fU f q ≤ f q then f q + 1 else fU f q
def AX (T : Nat → Nat → Prop) (p : Nat) (f : Nat → Nat) (c : Nat) : Prop := c ≤ fU f p ∧ AF T p f c
theorem fU_cg {f g : Nat → Nat} : ∀ p, (∀ q, q < p → f q = g q) → fU f p = fU g p := by
  intro p
  induction p with
  | zero => intro _; rfl
  | succ p ih =>
    intro h
    show (if fU f p ≤ f p then f p + 1 else fU f p) = (if fU g p ≤ g p then g p + 1 else fU g p)
    rw [ih (fun q hq => h q (by omega)), h p (by omega)]
theorem fU_gt {f : Nat → Nat} : ∀ p q, q < p → f q < fU f p := by
  intro p
  induction p with
  | zero => intro q hq; omega
  | succ p ih =>
    intro q hq
    show f q < (if fU f p ≤ f p then f p + 1 else fU f p)
    by_cases e : q = p
    · subst e
      split <;> omega
    · have := ih q (by omega)
      split <;> omega
theorem fU_le {f : Nat → Nat} : ∀ p, (∀ q, q < p → f q ≤ q) → fU f p ≤ p := by
  intro p
  induction p with
  | zero => intro _; exact Nat.le_refl 0
  | succ p ih =>
    intro h
    show (if fU f p ≤ f p then f p + 1 else fU f p) ≤ p + 1
    have := ih (fun q hq => h q (by omega))
    have := h p (by omega)
    split <;> omega
theorem fU_old {f : Nat → Nat} {p c : Nat} (h : c < fU f p) : fU (fu f p c) (p + 1) = fU f p := by
  show (if fU (fu f p c) p ≤ fu f p c p then fu f p c p + 1 else fU (fu f p c) p) = _
  rw [fU_cg (f := fu f p c) (g := f) p (fun q hq => fu_n (show q ≠ p by omega)), fu_s, if_neg (by omega)]
theorem fU_new {f : Nat → Nat} {p : Nat} : fU (fu f p (fU f p)) (p + 1) = fU f p + 1 := by
  show (if fU (fu f p (fU f p)) p ≤ fu f p (fU f p) p then fu f p (fU f p) p + 1 else fU (fu f p (fU f p)) p) = _
  rw [fU_cg (f := fu f p (fU f p)) (g := f) p (fun q hq => fu_n (show q ≠ p by omega)), fu_s, if_pos (Nat.le_refl _)]
theorem AF_loc (T : Nat → Nat → Prop) : ∀ p f f' c, (∀ q, q < p → f q = f' q) → AF T p f c → AF T p f' c := by
  intro p f f' c h a q hq t
  rw [← h q hq]
  exact a q hq t
/-- an exchange of two colours keeps the number of colourings -/
theorem dl_sw (T : Nat → Nat → Prop) {k a b : Nat} (ha : a < k) (hb : b < k) : ∀ d j f f', (∀ i, i < j → f' i = sw a b (f i)) → (dl (AF T) k d j f').length = (dl (AF T) k d j f).length := by
  intro d
  induction d with
  | zero => intro j f f' _; rfl
  | succ d ih =>
    intro j f f' h
    show (ds _ k 0).length = (ds _ k 0).length
    rw [ds_len, ds_len]
    refine Eq.trans ?_ (sl_sw ha hb)
    refine sl_cg k 0 (fun c _ _ => ?_)
    have hA : AF T j f' c ↔ AF T j f (sw a b c) := by
      constructor
      · intro z q hq t e
        apply z q hq t
        rw [h q hq, e, sw_sw]
      · intro z q hq t e
        apply z q hq t
        rw [← e, h q hq, sw_sw]
    by_cases z : AF T j f' c
    · rw [if_pos z, if_pos (hA.mp z)]
      refine ih (j + 1) _ _ (fun i hi => ?_)
      by_cases e : i = j
      · subst e; rw [fu_s, fu_s, sw_sw]
      · rw [fu_n e, fu_n e, h i (by omega)]
    · rw [if_neg z, if_neg (fun y => z (hA.mpr y))]
/-- a colour that is not used yet is as good as the least such -/
theorem dl_new (T : Nat → Nat → Prop) {k d j c : Nat} {f : Nat → Nat} (h : fU f j ≤ c) (hc : c < k) : (dl (AF T) k d (j + 1) (fu f j c)).length = (dl (AF T) k d (j + 1) (fu f j (fU f j))).length := by
  refine dl_sw T (a := fU f j) (b := c) (by omega) hc d (j + 1) _ _ (fun i hi => ?_)
  by_cases e : i = j
  · subst e; rw [fu_s, fu_s, sw_a]
  · have := fU_gt (f := f) j i (by omega)
    rw [fu_n e, fu_n e, sw_o (by omega) (by omega)]
theorem AF_new (T : Nat → Nat → Prop) {j c : Nat} {f : Nat → Nat} (h : fU f j ≤ c) : AF T j f c := by
  intro q hq _ e
  have := fU_gt (f := f) j q hq
  omega
theorem hd_nil {α : Type} {l : List α} : l.head? = none ↔ l = [] := by cases l <;> simp
theorem hd_ds {α : Type} {gX gF : Nat → List α} {m k : Nat} (h1 : ∀ c, c ≤ m → c < k → (gX c).head? = (gF c).head?) (h2 : ∀ c, m < c → gX c = []) (h3 : ∀ c, m < c → c < k → gF m = [] → gF c = []) : ∀ r c, c + r = k → c ≤ m → (ds gX r c).head? = (ds gF r c).head? := by
  intro r
  induction r with
  | zero => intro c _ _; rfl
  | succ r ih =>
    intro c hc hm
    have e := h1 c hm (by omega)
    show (gX c ++ ds gX r (c + 1)).head? = (gF c ++ ds gF r (c + 1)).head?
    cases hx : gX c with
    | cons x t =>
      rw [hx] at e
      cases hf : gF c with
      | cons y s => rw [hf] at e; exact e
      | nil => rw [hf] at e; simp at e
    | nil =>
      rw [hx] at e
      have hf : gF c = [] := hd_nil.mp e.symm
      rw [hf]
      show (ds gX r (c + 1)).head? = (ds gF r (c + 1)).head?
      by_cases z : c + 1 ≤ m
      · exact ih (c + 1) (by omega) z
      · have hcm : c = m := by omega
        subst hcm
        rw [ds_nil gX r (c + 1) (fun i h4 _ => h2 i (by omega)), ds_nil gF r (c + 1) (fun i h4 h5 => h3 i (by omega) (by omega) hf)]
/-- the first colouring of all is the first of those in order of first use -/
theorem dl_hd (T : Nat → Nat → Prop) (k : Nat) : ∀ d j f, (dl (AX T) k d j f).head? = (dl (AF T) k d j f).head? := by
  intro d
  induction d with
  | zero => intro j f; rfl
  | succ d ih =>
    intro j f
    refine hd_ds (m := fU f j) (k := k) (fun c hc hk => ?_) (fun c hc => ?_) (fun c hc hk h => ?_) k 0 (by omega) (by omega)
    · by_cases a : AF T j f c
      · rw [if_pos a, if_pos (show AX T j f c from ⟨hc, a⟩)]
        exact ih (j + 1) _
      · rw [if_neg a, if_neg (fun z : AX T j f c => a z.2)]
    · rw [if_neg (fun z : AX T j f c => by have := z.1; omega)]
    · rw [if_pos (AF_new T (Nat.le_refl _))] at h
      rw [if_pos (AF_new T (by omega))]
      have := dl_new T (d := d) (show fU f j ≤ c by omega) hk
      rw [h] at this
      exact List.length_eq_zero_iff.mp this
def fac : Nat → Nat
  | 0 => 1
  | n + 1 => (n + 1) * fac n
/-- n points with links T have a colouring with colours below k -/
def Col (T : Nat → Nat → Prop) (n k : Nat) : Prop := ∃ f : Nat → Nat, ∀ p, p < n → f p < k ∧ AF T p f (f p)
theorem dl_col (T : Nat → Nat → Prop) (n k : Nat) : dl (AF T) k n 0 (fun _ => 0) ≠ [] ↔ Col T n k := by
  constructor
  · intro h
    obtain ⟨f, hf⟩ := List.exists_mem_of_ne_nil _ h
    rw [dl_mem (AF_loc T)] at hf
    exact ⟨f, fun p hp => hf.2 p (by omega) (by omega)⟩
  · rintro ⟨f, hf⟩ e
    have : tc f n ∈ dl (AF T) k n 0 (fun _ => 0) := by
      rw [dl_mem (AF_loc T)]
      refine ⟨fun i hi => tc_g (by omega), fun i _ hi => ?_⟩
      rw [tc_l (by omega)]
      exact ⟨(hf i (by omega)).1, AF_loc T i f _ _ (fun q hq => (tc_l (by omega)).symm) (hf i (by omega)).2⟩
    rw [e] at this
    cases this
theorem dx_col (T : Nat → Nat → Prop) (n k : Nat) : dl (AX T) k n 0 (fun _ => 0) ≠ [] ↔ Col T n k := by
  rw [← dl_col]
  exact not_congr (by rw [← hd_nil, ← hd_nil, dl_hd])
/-- each colouring in order of first use stands for (k - used)! of them, if none has fewer than k colours -/
theorem dl_cnt (T : Nat → Nat → Prop) (n k : Nat) (hk : 1 ≤ k) (hc : ¬ Col T n (k - 1)) : ∀ d j f, j + d = n → fU f j ≤ k → (∀ i, i < j → AF T i f (f i)) → (dl (AF T) k d j f).length = fac (k - fU f j) * (dl (AX T) k d j f).length := by
  intro d
  induction d with
  | zero =>
    intro j f hj hU hp
    have e : fU f j = k := by
      apply Classical.byContradiction
      intro z
      apply hc
      refine ⟨f, fun p hpn => ⟨?_, hp p (by omega)⟩⟩
      have := fU_gt (f := f) j p (by omega)
      omega
    rw [e, Nat.sub_self]
    rfl
  | succ d ih =>
    intro j f hj hU hp
    have hpre : ∀ c, AF T j f c → ∀ i, i < j + 1 → AF T i (fu f j c) (fu f j c i) := by
      intro c a i hi
      by_cases e : i = j
      · subst e
        rw [fu_s]
        exact AF_loc T i f _ c (fun q hq => (fu_n (by omega)).symm) a
      · rw [fu_n e]
        exact AF_loc T i f _ _ (fun q hq => (fu_n (by omega)).symm) (hp i (by omega))
    show (ds _ k 0).length = _ * (ds _ k 0).length
    rw [ds_len, ds_len]
    obtain ⟨r, hr⟩ : ∃ r, k = fU f j + r := ⟨k - fU f j, by omega⟩
    have hr2 : k - fU f j = r := by omega
    rw [hr2]
    have e1 : ∀ F : Nat → Nat, sl F k 0 = sl F (fU f j) 0 + sl F r (fU f j) := by
      intro F
      have := sl_split (F := F) (fU f j) r 0
      rw [← hr, Nat.zero_add] at this
      exact this
    rw [e1, e1, Nat.mul_add]
    congr 1
    · rw [← sl_mul]
      refine sl_cg _ _ (fun c _ hlt => ?_)
      rw [Nat.zero_add] at hlt
      by_cases a : AF T j f c
      · rw [if_pos a, if_pos (show AX T j f c from ⟨by omega, a⟩), ih (j + 1) _ (by omega) (by rw [fU_old hlt]; exact hU) (hpre c a), fU_old hlt, hr2]
      · rw [if_neg a, if_neg (fun z : AX T j f c => a z.2)]
        rfl
    · cases r with
      | zero => rfl
      | succ r =>
        have a0 : AF T j f (fU f j) := AF_new T (Nat.le_refl _)
        have hh := ih (j + 1) (fu f j (fU f j)) (by omega) (by rw [fU_new]; omega) (hpre _ a0)
        rw [fU_new, show k - (fU f j + 1) = r by omega] at hh
        rw [sl_k (dl (AF T) k d (j + 1) (fu f j (fU f j))).length (r + 1) (fU f j) (fun c h1 h2 => by rw [if_pos (AF_new T h1)]; exact dl_new T h1 (by omega))]
        rw [sl_1, if_pos (show AX T j f (fU f j) from ⟨Nat.le_refl _, a0⟩), sl_k 0 r (fU f j + 1) (fun c h1 h2 => by rw [if_neg (fun z : AX T j f c => by have := z.1; omega)]; rfl), hh, Nat.mul_zero]
        show _ = (r + 1) * fac r * _
        rw [Nat.mul_assoc]
        rfl
/-- ways = k! times the count -/
theorem dl_ways (T : Nat → Nat → Prop) {n k : Nat} (hk : 1 ≤ k) (hc : ¬ Col T n (k - 1)) : (dl (AF T) k n 0 (fun _ => 0)).length = fac k * (dl (AX T) k n 0 (fun _ => 0)).length := by
  have := dl_cnt T n k hk hc n 0 (fun _ => 0) (by omega) (Nat.zero_le _) (fun i hi => by omega)
  exact this
/-- p numbers leave one of 0 .. p out -/
theorem pg_h : ∀ (p : Nat) (f : Nat → Nat), ∃ c, c ≤ p ∧ ∀ q, q < p → f q ≠ c := by
  intro p
  induction p with
  | zero => intro f; exact ⟨0, Nat.le_refl 0, fun q hq => by omega⟩
  | succ p ih =>
    intro f
    obtain ⟨c, hc, h⟩ := ih (fun q => if f q = p + 1 then f p else f q)
    by_cases e : f p = c
    · refine ⟨p + 1, Nat.le_refl _, fun q hq z => ?_⟩
      by_cases w : q = p
      · subst w; omega
      · have := h q (by omega)
        rw [if_pos z] at this
        exact this e
    · refine ⟨c, by omega, fun q hq z => ?_⟩
      by_cases w : q = p
      · subst w; exact e z
      · have := h q (by omega)
        rw [if_neg (by omega)] at this
        exact this z
theorem Col_n (T : Nat → Nat → Prop) (n : Nat) : Col T n n := ⟨fun i => i, fun p hp => ⟨hp, fun q hq _ e => by have e2 : q = p := e; omega⟩⟩
theorem Col_mono {T : Nat → Nat → Prop} {n k k' : Nat} (h : k ≤ k') (c : Col T n k) : Col T n k' := by
  obtain ⟨f, hf⟩ := c
  exact ⟨f, fun p hp => ⟨Nat.lt_of_lt_of_le (hf p hp).1 h, (hf p hp).2⟩⟩
/-- x is the least number of colours, from 1 on, for which C holds -/
def Chi (C : Nat → Prop) (x : Nat) : Prop := 1 ≤ x ∧ C x ∧ ∀ j, 1 ≤ j → j < x → ¬ C j
theorem Chi_u {C D : Nat → Prop} {x y : Nat} (h : ∀ j, 1 ≤ j → (C j ↔ D j)) (a : Chi C x) (b : Chi D y) : x = y := by
  obtain ⟨a1, a2, a3⟩ := a
  obtain ⟨b1, b2, b3⟩ := b
  rcases Nat.lt_trichotomy x y with z | z | z
  · exact absurd ((h x a1).mp a2) (b3 x a1 z)
  · exact z
  · exact absurd ((h y b1).mpr b2) (a3 y b1 z)
theorem Chi_e {C : Nat → Prop} : ∀ n, 1 ≤ n → C n → ∃ x, x ≤ n ∧ Chi C x := by
  intro n
  induction n using Nat.strongRecOn with
  | ind n ih =>
    intro h1 hC
    by_cases z : ∃ j, 1 ≤ j ∧ j < n ∧ C j
    · obtain ⟨j, j1, j2, j3⟩ := z
      obtain ⟨x, x1, x2⟩ := ih j j2 j1 j3
      exact ⟨x, by omega, x2⟩
    · exact ⟨n, Nat.le_refl n, h1, hC, fun j a b c => z ⟨j, a, b, c⟩⟩
