/-! the reference's next colouring and least number; our own -/
theorem bY_s : ∀ k, k < 8 → ∀ n, n < 9 → ms (fun _ => k) n 0 < 7999999 := by decide +kernel
/-- with as many colours as points, a walk never runs into a dead end -/
def EX (Be : Nat → Int32) (pr : Int32) (k : Nat) (f : Nat → Nat) (p c : Nat) : Prop := ∃ i, c ≤ i ∧ i < k ∧ AY Be pr p f i
noncomputable def P2 (Be : Nat → Int32) (pr : Int32) (n k : Nat) (f : Nat → Nat) (p c : Nat) : Nat := @ite _ (EX Be pr k f p c) (Classical.propDecidable _) ((k - c) + (n - 1 - p) * (k + 2)) ((k + 1 - c) + p * (k + 2) + n * (k + 2))
theorem P2_t {Be : Nat → Int32} {pr : Int32} {n k : Nat} {f : Nat → Nat} {p c : Nat} (h : EX Be pr k f p c) : P2 Be pr n k f p c = (k - c) + (n - 1 - p) * (k + 2) := if_pos h
theorem P2_f {Be : Nat → Int32} {pr : Int32} {n k : Nat} {f : Nat → Nat} {p c : Nat} (h : ¬ EX Be pr k f p c) : P2 Be pr n k f p c = (k + 1 - c) + p * (k + 2) + n * (k + 2) := if_neg h
theorem EX_0 {Be : Nat → Int32} {pr : Int32} {k : Nat} {f : Nat → Nat} {p : Nat} (h : p < k) : EX Be pr k f p 0 := by
  by_cases z : bt pr p = true
  · obtain ⟨c, hc, hn⟩ := pg_h p f
    exact ⟨c, by omega, by omega, fun _ q hq _ _ => hn q hq, fun w => absurd z w⟩
  · exact ⟨0, by omega, by omega, fun w => absurd w z, fun _ => rfl⟩
theorem P2_try {Be : Nat → Int32} {pr : Int32} {n k : Nat} {f : Nat → Nat} {p c : Nat} (hc : c < k) (hA : ¬ AY Be pr p f c) : P2 Be pr n k f p (c + 1) < P2 Be pr n k f p c := by
  by_cases e : EX Be pr k f p c
  · have e' : EX Be pr k f p (c + 1) := by
      obtain ⟨i, h1, h2, h3⟩ := e
      refine ⟨i, ?_, h2, h3⟩
      by_cases w : i = c
      · subst w; exact absurd h3 hA
      · omega
    rw [P2_t e, P2_t e']
    omega
  · have e' : ¬ EX Be pr k f p (c + 1) := by
      rintro ⟨i, h1, h2, h3⟩
      exact e ⟨i, by omega, h2, h3⟩
    rw [P2_f e, P2_f e']
    omega
theorem P2_down {Be : Nat → Int32} {pr : Int32} {n k : Nat} {f : Nat → Nat} {p c : Nat} (hnk : n ≤ k) (hp : p + 1 < n) (hc : c < k) (hA : AY Be pr p f c) : P2 Be pr n k (fu f p c) (p + 1) 0 < P2 Be pr n k f p c := by
  rw [P2_t (EX_0 (by omega)), P2_t ⟨c, by omega, hc, hA⟩, show n - 1 - p = (n - 1 - (p + 1)) + 1 by omega, Nat.add_mul]
  omega
theorem P2_pop {Be : Nat → Int32} {pr : Int32} {n k : Nat} {f : Nat → Nat} {p c : Nat} (hc : c ≤ k) (hno : ∀ i, c ≤ i → i < k → ¬ AY Be pr (p + 1) f i) : P2 Be pr n k f p (f p + 1) < P2 Be pr n k f (p + 1) c := by
  rw [P2_f (p := p + 1) (fun ⟨i, h1, h2, h3⟩ => hno i h1 h2 h3), Nat.add_mul]
  by_cases e : EX Be pr k f p (f p + 1)
  · rw [P2_t e]
    have : (n - 1 - p) * (k + 2) ≤ n * (k + 2) := Nat.mul_le_mul_right _ (by omega)
    omega
  · rw [P2_f e]
    omega
theorem P2_max {Be : Nat → Int32} {pr : Int32} {n k : Nat} {f : Nat → Nat} {p c : Nat} (hn : n ≤ 8) (hk : k ≤ 8) (hp : p < n) : P2 Be pr n k f p c < 7999999 := by
  have h1 : n * (k + 2) ≤ 8 * 10 := Nat.mul_le_mul hn (by omega)
  have h2 : p * (k + 2) ≤ n * (k + 2) := Nat.mul_le_mul_right _ (by omega)
  have h3 : (n - 1 - p) * (k + 2) ≤ n * (k + 2) := Nat.mul_le_mul_right _ (by omega)
  by_cases e : EX Be pr k f p c
  · rw [P2_t e]; omega
  · rw [P2_f e]; omega
/-- from point p on -/
theorem y_nx {post : Int32 → SY → Prop} {N Be : Nat → Int32} {pr : Int32} {n k : Nat} (hn1 : 1 ≤ n) (hn : n ≤ 8) (hk1 : 1 ≤ k) (hk : k ≤ 8) {p c : Nat} {f : Nat → Nat} {co : Nat → Int32} (hp : p < n) (hc : c ≤ k) (hf : ∀ q, q < p → f q < k) (hs : ∀ q, q < p → co q = nI (f q)) (hsp : co p + 1 = nI c) (hup : ∀ i, p < i → i < n → co i = -1) (h0 : rm_ (AY Be pr) k n f p c = [] → ∀ co', post 0 (nI n, pr, -1, N, Be, co')) (h1 : ∀ h, rm_ (AY Be pr) k n f p c = h :: up_ (AY Be pr) k n h n → (∀ i, i < n → h i < k) → ∀ co' : Nat → Int32, (∀ i, i < n → co' i = nI (h i)) → post 1 (nI n, pr, nI n, N, Be, co')) : ∃ fuel, wY_nextColouring_23 post (nI k) (nI n) pr fuel 0 (nI p) N Be co := by
  refine ⟨8000001, ?_⟩
  by_cases z : k = 8
  · have hb := P2_max (Be := Be) (pr := pr) (f := f) (c := c) hn hk hp
    exact y_walk hn1 hn hk1 hk (P2 Be pr n k) (fun f p c h2 h3 h4 => P2_try h3 h4) (fun f p c h2 h3 h4 => P2_down (by omega) h2 h3 h4) (fun f p c h2 h3 h4 => P2_pop h3 h4) 8000001 p c 0 f co hp hc hf hs hsp hup (by omega) (by omega) h0 h1
  · have hb := mM_max (b := fun _ => k) (f := f) p hp hf c
    have hb2 := bY_s k (by omega) n (by omega)
    exact y_walk hn1 hn hk1 hk (mM (fun _ => k) n) (fun f p c h2 h3 h4 => mM_lt (by omega) (Nat.le_of_lt h3)) (fun f p c h2 h3 h4 => mM_down h2 h3) (fun f p c h2 h3 h4 => mM_pop h3) 8000001 p c 0 f co hp hc hf hs hsp hup (by omega) (by omega) h0 h1
/-- the first call -/
theorem y_n0 {post : Int32 → SY → Prop} {N Be co : Nat → Int32} {pr : Int32} {n k : Nat} (hn1 : 1 ≤ n) (hn : n ≤ 8) (hk1 : 1 ≤ k) (hk : k ≤ 8) (hco : ∀ i, i < 8 → co i = -1) (h0 : dl (AY Be pr) k n 0 (fun _ => 0) = [] → ∀ co', post 0 (nI n, pr, -1, N, Be, co')) (h1 : ∀ h, dl (AY Be pr) k n 0 (fun _ => 0) = h :: up_ (AY Be pr) k n h n → (∀ i, i < n → h i < k) → ∀ co' : Nat → Int32, (∀ i, i < n → co' i = nI (h i)) → post 1 (nI n, pr, nI n, N, Be, co')) : wpY_nextColouring post (nI n, pr, 0, N, Be, co) (nI k) := by
  have e := rm_0 (AY Be pr) k (fun _ => 0) hn1
  rw [← e] at h0 h1
  refine br_f (fun z => ?_) ?_
  · have z2 : nI 0 = nI n := z
    rw [nI_eq (by omega) (by omega)] at z2
    omega
  · exact y_nx (p := 0) (c := 0) (f := fun _ => 0) hn1 hn hk1 hk (by omega) (by omega) (fun q hq => by omega) (fun q hq => by omega) (by rw [hco 0 (by omega)]; exact cb_m10) (fun i h2 h3 => hco i (by omega)) h0 h1
/-- a later call -/
theorem y_n1 {post : Int32 → SY → Prop} {N Be co : Nat → Int32} {pr : Int32} {n k : Nat} (hn1 : 1 ≤ n) (hn : n ≤ 8) (hk1 : 1 ≤ k) (hk : k ≤ 8) {g : Nat → Nat} (hg : ∀ i, i < n → g i < k) (hco : ∀ i, i < n → co i = nI (g i)) (h0 : up_ (AY Be pr) k n g n = [] → ∀ co', post 0 (nI n, pr, -1, N, Be, co')) (h1 : ∀ h, up_ (AY Be pr) k n g n = h :: up_ (AY Be pr) k n h n → (∀ i, i < n → h i < k) → ∀ co' : Nat → Int32, (∀ i, i < n → co' i = nI (h i)) → post 1 (nI n, pr, nI n, N, Be, co')) : wpY_nextColouring post (nI n, pr, nI n, N, Be, co) (nI k) := by
  obtain ⟨m, rfl⟩ : ∃ m, n = m + 1 := ⟨n - 1, by omega⟩
  have hgm := hg m (by omega)
  refine br_t rfl (nm_r (nI_pred m) ?_)
  exact y_nx (p := m) (c := g m + 1) (f := g) hn1 hn hk1 hk (by omega) (by omega) (fun q hq => hg q (by omega)) (fun q hq => hco q (by omega)) (by rw [hco m (by omega), nI_1]) (fun i h2 h3 => by omega) h0 h1
theorem y_bg {post : SY → Prop} {F pr at' : Int32} {N Be : Nat → Int32} (h : ∀ co' : Nat → Int32, (∀ i, i < 8 → co' i = -1) → post (F, pr, at', N, Be, co')) : ∀ (d p : Nat) (co : Nat → Int32), p + d = 8 → (∀ i, i < p → co i = -1) → ∀ fuel, d < fuel → wY_begin_7 post F pr at' fuel (nI p) N Be co := by
  intro d
  induction d with
  | zero =>
    intro p co hp hc fuel hfu
    obtain ⟨m, rfl⟩ : ∃ m, fuel = m + 1 := ⟨fuel - 1, by omega⟩
    exact br_t (nI_le (a := 8) (by omega) (by omega)) (h co (fun i hi => hc i (by omega)))
  | succ d ih =>
    intro p co hp hc fuel hfu
    obtain ⟨m, rfl⟩ : ∃ m, fuel = m + 1 := ⟨fuel - 1, by omega⟩
    refine br_f (nI_ge (b := 8) (by omega) (by omega)) ⟨vp_in_nI (by omega) (by omega), nm_r (e' := upd co p (-1)) (by rw [nI_clamp (by omega)]) (nm_r (nI_1 p) (ih (p + 1) _ (by omega) (fun i hi => ?_) m (by omega)))⟩
    by_cases e : i = p
    · subst e; rw [pk_us]
    · rw [pk_un e]; exact hc i (by omega)
theorem y_begin {post : SY → Prop} {F pr at' : Int32} {N Be co : Nat → Int32} (h : ∀ co' : Nat → Int32, (∀ i, i < 8 → co' i = -1) → post (F, pr, 0, N, Be, co')) : wpY_begin post (F, pr, at', N, Be, co) :=
  ⟨9, y_bg h 8 0 co (by omega) (fun i hi => by omega) 9 (by omega)⟩
/-- fewest answers the least number, and leaves the first colouring -/
theorem y_fl {post : Int32 → SY → Prop} {N Be : Nat → Int32} {pr : Int32} {n x : Nat} (hn1 : 1 ≤ n) (hn : n ≤ 8) (hx8 : x ≤ 8) (hx : Chi (CY Be pr n) x) (h : ∀ (co' : Nat → Int32) (h : Nat → Nat), dl (AY Be pr) x n 0 (fun _ => 0) = h :: up_ (AY Be pr) x n h n → (∀ i, i < n → h i < x) → (∀ i, i < n → co' i = nI (h i)) → post (nI x) (nI n, pr, nI n, N, Be, co')) : ∀ (d k : Nat) (at' : Int32) (co : Nat → Int32), 1 ≤ k → k + d = x → ∀ fuel, d < fuel → wY_fewest_11 post fuel (nI k) (nI n) pr at' N Be co := by
  obtain ⟨x1, x2, x3⟩ := hx
  intro d
  induction d with
  | zero =>
    intro k at' co hk1 hkx fuel hfu
    obtain ⟨m, rfl⟩ : ∃ m, fuel = m + 1 := ⟨fuel - 1, by omega⟩
    have e : k = x := by omega
    subst e
    refine br_f (nI_nlt (a := 8) (by omega) (by omega)) (y_begin (fun co1 hco1 => ?_))
    refine y_n0 hn1 hn hk1 hx8 hco1 (fun z co' => ?_) (fun h' e1 hb co' hsh => ?_)
    · exact absurd z ((dy_col _ _ _ _).mpr x2)
    · exact br_f (by decide) (h co' h' e1 hb hsh)
  | succ d ih =>
    intro k at' co hk1 hkx fuel hfu
    obtain ⟨m, rfl⟩ : ∃ m, fuel = m + 1 := ⟨fuel - 1, by omega⟩
    have e0 : dl (AY Be pr) k n 0 (fun _ => 0) = [] := by
      apply Classical.byContradiction
      intro z
      exact x3 k hk1 (by omega) ((dy_col _ _ _ _).mp z)
    refine br_f (nI_nlt (a := 8) (by omega) (by omega)) (y_begin (fun co1 hco1 => ?_))
    refine y_n0 hn1 hn hk1 (by omega) hco1 (fun z co' => ?_) (fun h' e1 hb co' hsh => ?_)
    · exact br_t rfl (nm_r (nI_1 k) (ih (k + 1) _ _ (by omega) (by omega) m (by omega)))
    · rw [e0] at e1
      cases e1
theorem y_few {post : Int32 → SY → Prop} {N Be co : Nat → Int32} {pr at' : Int32} {n x : Nat} (hn1 : 1 ≤ n) (hn : n ≤ 8) (hpr : ¬ pr = 0) (hx8 : x ≤ 8) (hx : Chi (CY Be pr n) x) (h : ∀ (co' : Nat → Int32) (h : Nat → Nat), dl (AY Be pr) x n 0 (fun _ => 0) = h :: up_ (AY Be pr) x n h n → (∀ i, i < n → h i < x) → (∀ i, i < n → co' i = nI (h i)) → post (nI x) (nI n, pr, nI n, N, Be, co')) : wpY_fewest post (nI n, pr, at', N, Be, co) :=
  br_f hpr ⟨x + 1, y_fl hn1 hn hx8 hx h (x - 1) 1 at' co (by omega) (by have := hx.1; omega) (x + 1) (by omega)⟩
theorem y_cl {post : SY → Prop} {N co : Nat → Int32} {n : Nat} {S pr at' : Int32} (hn : n ≤ 8) (h : ∀ b : Nat → Int32, (∀ i, i < n → b i = N i &&& S) → post (nI n, pr, at', N, b, co)) : ∀ (d p : Nat) (b : Nat → Int32), p + d = n → (∀ i, i < p → b i = N i &&& S) → ∀ fuel, d < fuel → wY_copy_7 post S (nI n) pr at' fuel (nI p) N b co := by
  intro d
  induction d with
  | zero =>
    intro p b hp ht fuel hfu
    obtain ⟨m, rfl⟩ : ∃ m, fuel = m + 1 := ⟨fuel - 1, by omega⟩
    exact br_t (nI_le (by omega) (by omega)) (h b (fun i hi => ht i (by omega)))
  | succ d ih =>
    intro p b hp ht fuel hfu
    obtain ⟨m, rfl⟩ : ∃ m, fuel = m + 1 := ⟨fuel - 1, by omega⟩
    have hin : vp_in (nI p) 8 := vp_in_nI (by omega) (by omega)
    refine br_f (nI_ge (by omega) (by omega)) ⟨hin, hin, nm_r (e' := upd b p (N p &&& S)) (by rw [nI_clamp (by omega)]) (nm_r (nI_1 p) (ih (p + 1) _ (by omega) (fun i hi => ?_) m (by omega)))⟩
    by_cases e : i = p
    · subst e; rw [pk_us]
    · rw [pk_un e]; exact ht i (by omega)
theorem y_cp {post : SY → Prop} {N Be co : Nat → Int32} {n : Nat} {S pr at' : Int32} (hn : n ≤ 8) (h : ∀ b : Nat → Int32, (∀ i, i < n → b i = N i &&& S) → post (nI n, S, at', N, b, co)) : wpY_copy post (nI n, pr, at', N, Be, co) S :=
  ⟨n + 1, y_cl hn h n 0 Be (by omega) (fun i hi => by omega) (n + 1) (by omega)⟩
theorem y_cpA {post : SY → Prop} {N Be co : Nat → Int32} {n : Nat} {pr at' : Int32} (hn : n ≤ 8) (h : ∀ b : Nat → Int32, (∀ i, i < n → b i = N i &&& (((1 : Int32) <<< (nI n &&& 31)) - 1)) → post (nI n, ((1 : Int32) <<< (nI n &&& 31)) - 1, at', N, b, co)) : wpY_copyAll post (nI n, pr, at', N, Be, co) :=
  y_cp (pr := pr) (Be := Be) (post := fun u => match u with | (f_n_9, f_present_10, f_at_11, a_near_12, a_beside_13, a_colours_14) => (post (f_n_9, f_present_10, f_at_11, a_near_12, a_beside_13, a_colours_14))) hn h
