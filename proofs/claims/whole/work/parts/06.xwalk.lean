/-! the component's walk; our own -/
/-- the steps below a point, if point p has b p colours -/
def ms (b : Nat → Nat) : Nat → Nat → Nat
  | 0, _ => 0
  | d + 1, p => (b p + 1) + b p * ms b d (p + 1)
def mu (b : Nat → Nat) (n : Nat) (f : Nat → Nat) : Nat → Nat
  | 0 => 0
  | p + 1 => (b p - f p) + (b p - (f p + 1)) * ms b (n - 1 - p) (p + 1) + mu b n f p
/-- the steps that are left at most -/
def mM (b : Nat → Nat) (n : Nat) (f : Nat → Nat) (p c : Nat) : Nat := (b p + 1 - c) + (b p - c) * ms b (n - 1 - p) (p + 1) + mu b n f p
theorem mu_cg {b : Nat → Nat} {n : Nat} {f g : Nat → Nat} : ∀ p, (∀ q, q < p → f q = g q) → mu b n f p = mu b n g p := by
  intro p
  induction p with
  | zero => intro _; rfl
  | succ p ih =>
    intro h
    show (b p - f p) + (b p - (f p + 1)) * ms b (n - 1 - p) (p + 1) + mu b n f p = (b p - g p) + (b p - (g p + 1)) * ms b (n - 1 - p) (p + 1) + mu b n g p
    rw [ih (fun q hq => h q (by omega)), h p (by omega)]
theorem mM_le {b : Nat → Nat} {n : Nat} {f : Nat → Nat} {p c c' : Nat} (h : c ≤ c') : mM b n f p c' ≤ mM b n f p c := by
  unfold mM
  have h1 : (b p - c') * ms b (n - 1 - p) (p + 1) ≤ (b p - c) * ms b (n - 1 - p) (p + 1) := Nat.mul_le_mul_right _ (by omega)
  omega
theorem mM_lt {b : Nat → Nat} {n : Nat} {f : Nat → Nat} {p c c' : Nat} (h : c < c') (hc : c ≤ b p) : mM b n f p c' < mM b n f p c := by
  unfold mM
  have h1 : (b p - c') * ms b (n - 1 - p) (p + 1) ≤ (b p - c) * ms b (n - 1 - p) (p + 1) := Nat.mul_le_mul_right _ (by omega)
  omega
theorem mM_fu {b : Nat → Nat} {n : Nat} {f : Nat → Nat} {p c c' : Nat} : mM b n (fu f p c') p c = mM b n f p c := by
  unfold mM
  rw [mu_cg (f := fu f p c') (g := f) p (fun q hq => fu_n (by omega))]
theorem mM_down {b : Nat → Nat} {n : Nat} {f : Nat → Nat} {p c : Nat} (hp : p + 1 < n) (hc : c < b p) : mM b n (fu f p c) (p + 1) 0 < mM b n f p c := by
  have e : ms b (n - 1 - p) (p + 1) = (b (p + 1) + 1) + b (p + 1) * ms b (n - 1 - (p + 1)) (p + 1 + 1) := by
    rw [show n - 1 - p = (n - 1 - (p + 1)) + 1 by omega]
    rfl
  have e2 : mu b n (fu f p c) (p + 1) = (b p - c) + (b p - (c + 1)) * ms b (n - 1 - p) (p + 1) + mu b n f p := by
    show (b p - fu f p c p) + (b p - (fu f p c p + 1)) * ms b (n - 1 - p) (p + 1) + mu b n (fu f p c) p = _
    rw [fu_s, mu_cg (f := fu f p c) (g := f) p (fun q hq => fu_n (by omega))]
  unfold mM
  rw [e2, Nat.sub_zero, Nat.sub_zero, ← e]
  rw [show b p - c = (b p - (c + 1)) + 1 by omega, Nat.add_mul, Nat.one_mul]
  generalize (b p - (c + 1)) * ms b (n - 1 - p) (p + 1) = y
  omega
theorem mM_pop {b : Nat → Nat} {n : Nat} {f : Nat → Nat} {p c : Nat} (hc : c ≤ b (p + 1)) : mM b n f p (f p + 1) < mM b n f (p + 1) c := by
  unfold mM
  show _ < _ + _ + ((b p - f p) + (b p - (f p + 1)) * ms b (n - 1 - p) (p + 1) + mu b n f p)
  generalize (b p - (f p + 1)) * ms b (n - 1 - p) (p + 1) = y
  generalize (b (p + 1) - c) * ms b (n - 1 - (p + 1)) (p + 1 + 1) = z
  omega
theorem mM_pos {b : Nat → Nat} {n : Nat} {f : Nat → Nat} {p c : Nat} (hc : c ≤ b p) : 1 ≤ mM b n f p c := by
  unfold mM
  omega
theorem mM_0 {b : Nat → Nat} {n : Nat} {f : Nat → Nat} (hn : 1 ≤ n) : mM b n f 0 0 = ms b n 0 := by
  obtain ⟨m, rfl⟩ : ∃ m, n = m + 1 := ⟨n - 1, by omega⟩
  rfl
theorem mM_max {b : Nat → Nat} {n : Nat} {f : Nat → Nat} : ∀ p, p < n → (∀ q, q < p → f q < b q) → ∀ c, mM b n f p c ≤ ms b n 0 := by
  intro p
  induction p with
  | zero =>
    intro hp _ c
    rw [← mM_0 (f := f) (by omega)]
    exact mM_le (by omega)
  | succ p ih =>
    intro hp h c
    have h1 := ih (by omega) (fun q hq => h q (by omega)) (f p)
    have h2 := mM_down (f := f) (c := f p) hp (h p (by omega))
    rw [fu_id] at h2
    have h3 := mM_le (b := b) (n := n) (f := f) (p := p + 1) (Nat.zero_le c)
    omega
theorem AF_tc {T : Nat → Nat → Prop} {p c : Nat} {f : Nat → Nat} : AF T p (tc f p) c ↔ AF T p f c := ⟨AF_loc T p _ _ c (fun q hq => tc_l hq), AF_loc T p _ _ c (fun q hq => (tc_l hq).symm)⟩
theorem AX_tc {T : Nat → Nat → Prop} {p c : Nat} {f : Nat → Nat} : AX T p (tc f p) c ↔ AX T p f c := by
  unfold AX
  rw [AF_tc, fU_cg p (fun q hq => tc_l hq)]
/-- the links of an array of rows -/
def tT (t : Nat → Int32) (p q : Nat) : Prop := bt (t p) q = true
theorem x_fU {post : Int32 → Prop} {F : Int32} {L t sh : Nat → Int32} {f : Nat → Nat} {p : Nat} (hp : p ≤ 8) (hs : ∀ q, q < p → sh q = nI (f q)) (hf : ∀ q, q < p → f q ≤ q) (h : post (nI (fU f p))) : ∀ d q, q + d = p → ∀ fuel, d < fuel → wX_firstUnused_4 post (nI p) F L t sh fuel (nI (fU f q)) (nI q) := by
  intro d
  induction d with
  | zero =>
    intro q hq fuel hfu
    obtain ⟨m, rfl⟩ : ∃ m, fuel = m + 1 := ⟨fuel - 1, by omega⟩
    have e : q = p := by omega
    subst e
    exact br_t (nI_le (Nat.le_refl q) (by omega)) h
  | succ d ih =>
    intro q hq fuel hfu
    obtain ⟨m, rfl⟩ : ∃ m, fuel = m + 1 := ⟨fuel - 1, by omega⟩
    have hin : vp_in (nI q) 8 := vp_in_nI (by omega) (by omega)
    have e : sh (nI q).toNatClampNeg = nI (f q) := by rw [nI_clamp (by omega), hs q (by omega)]
    have hb := hf q (by omega)
    have hb2 := fU_le (f := f) q (fun a ha => hf a (by omega))
    have hr := ih (q + 1) (by omega) m (by omega)
    refine br_f (nI_ge (by omega) (by omega)) ⟨hin, pk_lt (f q) (fU f q) (fun lt => nm_r (nI_1 q) ?_) (fun ge => ⟨hin, nm_r (e' := nI (f q + 1)) (by rw [e, nI_1]) (nm_r (nI_1 q) ?_)⟩) e rfl (by omega) (by omega)⟩
    · rw [show fU f (q + 1) = fU f q from if_neg (by omega)] at hr
      exact hr
    · rw [show fU f (q + 1) = f q + 1 from if_pos ge] at hr
      exact hr
theorem x_cl {post : Int32 → Prop} {F : Int32} {L t sh : Nat → Int32} {f : Nat → Nat} {p c : Nat} (hp : p < 8) (hc : c ≤ 8) (hs : ∀ q, q < p → sh q = nI (f q)) (hf : ∀ q, q < p → f q ≤ q) (h0 : AF (tT t) p f c → post 0) (h1 : ¬ AF (tT t) p f c → post 1) : ∀ d q, q + d = p → (∀ a, a < q → tT t p a → f a ≠ c) → ∀ fuel, d < fuel → wX_clashes_2 post (nI p) (nI c) F L t sh fuel (nI q) := by
  intro d
  induction d with
  | zero =>
    intro q hq hn fuel hfu
    obtain ⟨m, rfl⟩ : ∃ m, fuel = m + 1 := ⟨fuel - 1, by omega⟩
    have e : q = p := by omega
    subst e
    exact br_t (nI_le (Nat.le_refl q) (by omega)) (h0 hn)
  | succ d ih =>
    intro q hq hn fuel hfu
    obtain ⟨m, rfl⟩ : ∃ m, fuel = m + 1 := ⟨fuel - 1, by omega⟩
    have hin : vp_in (nI q) 8 := vp_in_nI (by omega) (by omega)
    have hip : vp_in (nI p) 8 := vp_in_nI (by omega) (by omega)
    have e : sh (nI q).toNatClampNeg = nI (f q) := by rw [nI_clamp (by omega), hs q (by omega)]
    have hb := hf q (by omega)
    refine br_f (nI_ge (by omega) (by omega)) ⟨hin, pk_eq (f q) c (fun eq => ⟨hip, ?_⟩) (fun ne => nm_r (nI_1 q) ?_) e rfl (by omega) (by omega)⟩
    · refine cb_br (by omega) (fun b => ?_) (fun b => nm_r (nI_1 q) ?_)
      · rw [nI_clamp (by omega)] at b
        exact h1 (fun z => z q (by omega) b eq)
      · rw [nI_clamp (by omega)] at b
        refine ih (q + 1) (by omega) (fun a ha ht => ?_) m (by omega)
        by_cases z : a = q
        · subst z; exact absurd ht b
        · exact hn a (by omega) ht
    · refine ih (q + 1) (by omega) (fun a ha ht => ?_) m (by omega)
      by_cases z : a = q
      · subst z; exact ne
      · exact hn a (by omega) ht
theorem x_ns {post : Int32 → Prop} {F : Int32} {L t sh : Nat → Int32} {f : Nat → Nat} {p k c0 : Nat} (hp : p < 8) (hk : k ≤ 8) (hs : ∀ q, q < p → sh q = nI (f q)) (hf : ∀ q, q < p → f q ≤ q) (h0 : (∀ i, c0 ≤ i → i < k → ¬ AX (tT t) p f i) → post (-1)) (h1 : ∀ c, c0 ≤ c → c < k → AX (tT t) p f c → (∀ i, c0 ≤ i → i < c → ¬ AX (tT t) p f i) → post (nI c)) : ∀ d c, c + d = 9 → c0 ≤ c → (∀ i, c0 ≤ i → i < c → ¬ AX (tT t) p f i) → ∀ fuel, d < fuel → wX_nextShade_16 post (nI p) (nI k) (nI (fU f p)) F L t sh fuel (nI c) := by
  have hU := fU_le (f := f) p hf
  intro d
  induction d with
  | zero =>
    intro c hc h00 hn fuel hfu
    obtain ⟨m, rfl⟩ : ∃ m, fuel = m + 1 := ⟨fuel - 1, by omega⟩
    exact br_t (nI_le (by omega) (by omega)) (h0 (fun i h2 h3 => hn i h2 (by omega)))
  | succ d ih =>
    intro c hc h00 hn fuel hfu
    obtain ⟨m, rfl⟩ : ∃ m, fuel = m + 1 := ⟨fuel - 1, by omega⟩
    refine pk_le k c (fun le => h0 (fun i h2 h3 => hn i h2 (by omega))) (fun lt => ?_)
    refine pk_lt (fU f p) c (fun lt2 => h0 (fun i h2 h3 z => ?_)) (fun ge => ?_)
    · by_cases w : i < c
      · exact hn i h2 w z
      · have := z.1
        omega
    · refine ⟨p + 1, ?_⟩
      have hx := x_cl (post := fun r_10 => (((r_10 = 0 → (post (nI c))) ∧ (¬ r_10 = 0 → (∀ y, y = nI c + 1 → (wX_nextShade_16 post (nI p) (nI k) (nI (fU f p)) F L t sh m y)))))) (F := F) (L := L) (t := t) (sh := sh) (f := f) (p := p) (c := c) hp (by omega) hs hf (fun a => br_t rfl (h1 c h00 lt ⟨ge, a⟩ hn)) (fun a => br_f (by decide) (nm_r (nI_1 c) (ih (c + 1) (by omega) (by omega) (fun i h2 h3 z => ?_) m (by omega)))) p 0 (by omega) (fun a ha => by omega) (p + 1) (by omega)
      · exact hx
      · by_cases w : i < c
        · exact hn i h2 w z
        · have e : i = c := by omega
          subst e
          exact a z.2
theorem x_next {post : Int32 → Prop} {F : Int32} {L t sh : Nat → Int32} {f : Nat → Nat} {p k c0 : Nat} (hp : p < 8) (hk : k ≤ 8) (hc0 : c0 ≤ 9) (hs : ∀ q, q < p → sh q = nI (f q)) (hf : ∀ q, q < p → f q ≤ q) (hsp : sh p + 1 = nI c0) (h0 : (∀ i, c0 ≤ i → i < k → ¬ AX (tT t) p f i) → post (-1)) (h1 : ∀ c, c0 ≤ c → c < k → AX (tT t) p f c → (∀ i, c0 ≤ i → i < c → ¬ AX (tT t) p f i) → post (nI c)) : wpX_nextShade post (F, L, t, sh) (nI p) (nI k) := by
  refine ⟨p + 1, ?_⟩
  refine x_fU (post := fun r_1 => (vp_in (nI p) 8 ∧ (∀ x4_7 : Int32, x4_7 = (sh (nI p).toNatClampNeg) + 1 → (∃ n16 : Nat, wX_nextShade_16 post (nI p) (nI k) r_1 F L t sh n16 x4_7)))) (f := f) (by omega) hs hf ?_ p 0 (by omega) (p + 1) (by omega)
  refine ⟨vp_in_nI hp (by omega), nm_r (e' := nI c0) (by rw [nI_clamp (by omega), hsp]) ⟨10, ?_⟩⟩
  exact x_ns hp hk hs hf h0 h1 (9 - c0) c0 (by omega) (Nat.le_refl _) (fun i h2 h3 => by omega) 10 (by omega)
