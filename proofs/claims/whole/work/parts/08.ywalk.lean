/-! the reference's walk; our own -/
/-- p may take c in the reference's walk: absent points take 0 -/
def AY (Be : Nat → Int32) (pr : Int32) (p : Nat) (f : Nat → Nat) (c : Nat) : Prop := (bt pr p = true → ∀ q, q < p → bt (Be p) q = true → bt pr q = true → f q ≠ c) ∧ (¬ bt pr p = true → c = 0)
theorem AY_loc (Be : Nat → Int32) (pr : Int32) : ∀ p f f' c, (∀ q, q < p → f q = f' q) → AY Be pr p f c → AY Be pr p f' c := by
  intro p f f' c h a
  refine ⟨fun hp q hq t1 t2 => ?_, a.2⟩
  rw [← h q hq]
  exact a.1 hp q hq t1 t2
theorem AY_tc {Be : Nat → Int32} {pr : Int32} {p c : Nat} {f : Nat → Nat} : AY Be pr p (tc f p) c ↔ AY Be pr p f c := ⟨AY_loc Be pr p _ _ c (fun q hq => tc_l hq), AY_loc Be pr p _ _ c (fun q hq => (tc_l hq).symm)⟩
def CY (Be : Nat → Int32) (pr : Int32) (n k : Nat) : Prop := ∃ f : Nat → Nat, ∀ p, p < n → f p < k ∧ AY Be pr p f (f p)
theorem dy_col (Be : Nat → Int32) (pr : Int32) (n k : Nat) : dl (AY Be pr) k n 0 (fun _ => 0) ≠ [] ↔ CY Be pr n k := by
  constructor
  · intro h
    obtain ⟨f, hf⟩ := List.exists_mem_of_ne_nil _ h
    rw [dl_mem (AY_loc Be pr)] at hf
    exact ⟨f, fun p hp => hf.2 p (by omega) (by omega)⟩
  · rintro ⟨f, hf⟩ e
    have : tc f n ∈ dl (AY Be pr) k n 0 (fun _ => 0) := by
      rw [dl_mem (AY_loc Be pr)]
      refine ⟨fun i hi => tc_g (by omega), fun i _ hi => ?_⟩
      rw [tc_l (by omega)]
      exact ⟨(hf i (by omega)).1, AY_loc Be pr i f _ _ (fun q hq => (tc_l (by omega)).symm) (hf i (by omega)).2⟩
    rw [e] at this
    cases this
theorem y_fits {post : Int32 → Prop} {F at' pr : Int32} {N Be a : Nat → Int32} {f : Nat → Nat} {p c : Nat} (hp : p < 8) (hc : c ≤ 8) (hs : ∀ q, q < p → a q = nI (f q)) (hf : ∀ q, q < p → f q < 8) (ha : a p = nI c) (hpr : bt pr p = true) (h1 : AY Be pr p f c → post 1) (h0 : ¬ AY Be pr p f c → post 0) : ∀ d q, q + d = p → (∀ i, i < q → bt (Be p) i = true → bt pr i = true → f i ≠ c) → ∀ fuel, d < fuel → wY_fits_2 post (nI p) F pr at' N Be a fuel (nI q) := by
  intro d
  induction d with
  | zero =>
    intro q hq hn fuel hfu
    obtain ⟨m, rfl⟩ : ∃ m, fuel = m + 1 := ⟨fuel - 1, by omega⟩
    have e : q = p := by omega
    subst e
    exact br_t (nI_le (Nat.le_refl q) (by omega)) (h1 ⟨fun _ => hn, fun z => absurd hpr z⟩)
  | succ d ih =>
    intro q hq hn fuel hfu
    obtain ⟨m, rfl⟩ : ∃ m, fuel = m + 1 := ⟨fuel - 1, by omega⟩
    have hin : vp_in (nI q) 8 := vp_in_nI (by omega) (by omega)
    have hip : vp_in (nI p) 8 := vp_in_nI (by omega) (by omega)
    have e : a (nI q).toNatClampNeg = nI (f q) := by rw [nI_clamp (by omega), hs q (by omega)]
    have e2 : a (nI p).toNatClampNeg = nI c := by rw [nI_clamp (by omega), ha]
    have hb := hf q (by omega)
    refine br_f (nI_ge (by omega) (by omega)) ⟨hip, cb_br (by omega) (fun b1 => ?_) (fun b1 => ?_)⟩
    · rw [nI_clamp (by omega)] at b1
      refine br_f (by decide) (cb_br (by omega) (fun b2 => ?_) (fun b2 => ?_))
      · refine br_f (by decide) ⟨hin, hip, pk_eq (f q) c (fun eq => h0 (fun z => z.1 hpr q (by omega) b1 b2 eq)) (fun ne => nm_r (nI_1 q) ?_) e e2 (by omega) (by omega)⟩
        refine ih (q + 1) (by omega) (fun i hi t1 t2 => ?_) m (by omega)
        by_cases z : i = q
        · subst z; exact ne
        · exact hn i (by omega) t1 t2
      · refine br_t rfl (nm_r (nI_1 q) ?_)
        refine ih (q + 1) (by omega) (fun i hi t1 t2 => ?_) m (by omega)
        by_cases z : i = q
        · subst z; exact absurd t2 b2
        · exact hn i (by omega) t1 t2
    · rw [nI_clamp (by omega)] at b1
      refine br_t rfl (nm_r (nI_1 q) ?_)
      refine ih (q + 1) (by omega) (fun i hi t1 t2 => ?_) m (by omega)
      by_cases z : i = q
      · subst z; exact absurd t1 b1
      · exact hn i (by omega) t1 t2
theorem y_exit {post : Int32 → SY → Prop} {n : Nat} {pr : Int32} {N Be co : Nat → Int32} {k : Int32} (hn1 : 1 ≤ n) (hn : n ≤ 8) (m : Nat) (x : Int32) (P : post 1 (nI n, pr, nI n, N, Be, co)) : wY_nextColouring_23 post k (nI n) pr (m + 1) x (nI n) N Be co := by
  have P2 : wY_nextColouring_159 post (nI n) pr (nI n) N Be co := br_t rfl P
  exact br_c (fun _ => P2) (fun _ => br_f (nI_pos (by omega)) (br_t (nI_le (Nat.le_refl n) (by omega)) P2))
theorem cb_ne1' : ∀ c, c < 16 → ¬ (-1 : Int32) = nI c := by decide
theorem y_exit0 {post : Int32 → SY → Prop} {n : Nat} {pr : Int32} {N Be co : Nat → Int32} {k : Int32} (hn : n ≤ 8) (m : Nat) (x : Int32) (P : post 0 (nI n, pr, -1, N, Be, co)) : wY_nextColouring_23 post k (nI n) pr (m + 1) x (-1) N Be co := by
  have P2 : wY_nextColouring_159 post (nI n) pr (-1) N Be co := br_f (cb_ne1' n (by omega)) P
  exact br_c (fun _ => P2) (fun _ => br_t (by decide) P2)
/-- one call of the reference's walk, over any measure of its steps -/
theorem y_walk {post : Int32 → SY → Prop} {N Be : Nat → Int32} {pr : Int32} {n k : Nat} (hn1 : 1 ≤ n) (hn : n ≤ 8) (hk1 : 1 ≤ k) (hk : k ≤ 8) (Φ : (Nat → Nat) → Nat → Nat → Nat)
    (ht : ∀ f p c, p < n → c < k → ¬ AY Be pr p f c → Φ f p (c + 1) < Φ f p c)
    (hd : ∀ f p c, p + 1 < n → c < k → AY Be pr p f c → Φ (fu f p c) (p + 1) 0 < Φ f p c)
    (hq : ∀ f p c, p + 1 < n → c ≤ k → (∀ i, c ≤ i → i < k → ¬ AY Be pr (p + 1) f i) → Φ f p (f p + 1) < Φ f (p + 1) c) :
    ∀ (fuel p c step : Nat) (f : Nat → Nat) (co : Nat → Int32), p < n → c ≤ k → (∀ q, q < p → f q < k) → (∀ q, q < p → co q = nI (f q)) → co p + 1 = nI c → (∀ i, p < i → i < n → co i = -1) → step + Φ f p c < 8000000 → Φ f p c + 1 < fuel →
    (rm_ (AY Be pr) k n f p c = [] → ∀ co', post 0 (nI n, pr, -1, N, Be, co')) →
    (∀ h, rm_ (AY Be pr) k n f p c = h :: up_ (AY Be pr) k n h n → (∀ i, i < n → h i < k) → ∀ co' : Nat → Int32, (∀ i, i < n → co' i = nI (h i)) → post 1 (nI n, pr, nI n, N, Be, co')) →
    wY_nextColouring_23 post (nI k) (nI n) pr fuel (nI step) (nI p) N Be co := by
  intro fuel
  induction fuel with
  | zero => intro p c step f co _ _ _ _ _ _ _ h; omega
  | succ m ih =>
    intro p c step f co hp hc hf hs hsp hup hst hfu h0 h1
    have hcl : (nI p).toNatClampNeg = p := nI_clamp (by omega)
    have hin : vp_in (nI p) 8 := vp_in_nI (by omega) (by omega)
    have hcp : upd co p (nI c) (nI p).toNatClampNeg = nI c := by rw [hcl, pk_us]
    have hlow : ∀ q, q < p → upd co p (nI c) q = nI (f q) := fun q h2 => by rw [pk_un (by omega)]; exact hs q h2
    -- downward, or found
    have D : c < k → AY Be pr p f c → wY_nextColouring_143 post (wY_nextColouring_23 post (nI k) (nI n) pr m) (nI k) (nI step) (nI n) pr (nI p) N Be (upd co p (nI c)) := by
      intro hck hA
      refine nm_r (nI_1 p) (nm_r (nI_1 step) ?_)
      by_cases e1 : p + 1 = n
      · obtain ⟨m', rfl⟩ : ∃ m', m = m' + 1 := ⟨m - 1, by omega⟩
        rw [e1]
        have eR := rm_leaf (k := k) e1 hck (AY_tc.mpr hA)
        have eU : rm_ (AY Be pr) k n (fu f p c) p (c + 1) = up_ (AY Be pr) k n (tc (fu f p c) n) n := by
          rw [up_cg (f := tc (fu f p c) n) (f' := fu f p c) n (fun i hi => tc_l hi), ← e1]
          show _ = ds (gg (AY Be pr) k (p + 1) (fu f p c) p) (k - (fu f p c p + 1)) (fu f p c p + 1) ++ up_ (AY Be pr) k (p + 1) (fu f p c) p
          rw [fu_s]
          rfl
        rw [eU] at eR
        refine y_exit hn1 hn m' _ (h1 _ eR (fun i hi => ?_) _ (fun i hi => ?_))
        · rw [tc_l hi]
          by_cases w : i = p
          · subst w; rw [fu_s]; exact hck
          · rw [fu_n w]; exact hf i (by omega)
        · rw [tc_l hi]
          by_cases w : i = p
          · subst w; rw [pk_us, fu_s]
          · rw [pk_un w, fu_n w]; exact hs i (by omega)
      · have eR := rm_down (A := AY Be pr) (k := k) (n := n) (f := f) (p := p) (c := c) (by omega) hck (AY_tc.mpr hA)
        have hlt := hd f p c (by omega) hck hA
        rw [eR] at h0 h1
        refine ih (p + 1) 0 (step + 1) (fu f p c) _ (by omega) (by omega) (fun q h2 => ?_) (fun q h2 => ?_) ?_ (fun i h2 h3 => ?_) (by omega) (by omega) h0 h1
        · by_cases w : q = p
          · subst w; rw [fu_s]; exact hck
          · rw [fu_n w]; exact hf q (by omega)
        · by_cases w : q = p
          · subst w; rw [pk_us, fu_s]
          · rw [pk_un w, fu_n w]; exact hs q (by omega)
        · rw [pk_un (by omega), hup (p + 1) (by omega) (by omega)]; exact cb_m10
        · rw [pk_un (by omega)]; exact hup i (by omega) h3
    -- back
    have B : (∀ i, c ≤ i → i < k → ¬ AY Be pr p f i) → (vp_in (nI p) 8 ∧ ∀ a_colours_39 : Nat → Int32, a_colours_39 = upd (upd co p (nI c)) (nI p).toNatClampNeg (-1) → (∀ f_at_40 : Int32, f_at_40 = nI p - 1 → (∀ x2_41 : Int32, x2_41 = nI step + 1 → (wY_nextColouring_23 post (nI k) (nI n) pr m x2_41 f_at_40 N Be a_colours_39)))) := by
      intro hno
      refine ⟨hin, nm_r (e' := upd (upd co p (nI c)) p (-1)) (by rw [hcl]) ?_⟩
      cases p with
      | zero =>
        obtain ⟨m', rfl⟩ : ∃ m', m = m' + 1 := ⟨m - 1, by omega⟩
        have e := rm_end (k := k) (n := n) (fun i a b z => hno i a b (AY_tc.mp z))
        refine nm_r (e' := -1) (by decide) (nm_e ?_)
        exact y_exit0 hn m' _ (h0 e _)
      | succ q =>
        have e := rm_pop (k := k) (n := n) (fun i a b z => hno i a b (AY_tc.mp z))
        have hlt := hq f q c (by omega) hc hno
        rw [e] at h0 h1
        refine nm_r (nI_pred q) (nm_r (nI_1 step) (ih q (f q + 1) (step + 1) f _ (by omega) (hf q (by omega)) (fun a ha => hf a (by omega)) (fun a ha => ?_) ?_ (fun i h2 h3 => ?_) (by omega) (by omega) h0 h1))
        · rw [pk_un (by omega), pk_un (by omega), hs a (by omega)]
        · rw [pk_un (by omega), pk_un (by omega), hs q (by omega), nI_1]
        · by_cases w : i = q + 1
          · subst w; rw [pk_us]
          · rw [pk_un w, pk_un w]; exact hup i (by omega) h3
    refine br_f (nI_ge (b := 8000000) (by omega) (by decide)) (br_f (nI_pos (by omega)) (br_f (nI_ge (by omega) (by omega)) ⟨hin, hin, nm_r (e' := upd co p (nI c)) (by rw [hcl, hsp]) (cb_br (by omega) (fun hpr => br_f (by decide) ⟨hin, ?_⟩) (fun hpr => br_t rfl ⟨hin, ?_⟩))⟩))
    · refine pk_lt c k (fun lt => cb_br (by omega) (fun _ => br_f (by decide) ⟨p + 1, ?_⟩) (fun z => absurd hpr z)) (fun ge => B (fun i h2 h3 => by omega)) hcp rfl (by omega) (by omega)
      refine y_fits (f := f) (c := c) (by omega) (by omega) hlow (fun q h2 => Nat.lt_of_lt_of_le (hf q h2) hk) pk_us hpr (fun hA => br_f (by decide) (D lt hA)) (fun hA => br_t rfl (nm_r (nI_1 step) ?_)) p 0 (by omega) (fun i hi => by omega) (p + 1) (by omega)
      have eR := rm_skip (A := AY Be pr) (k := k) (n := n) (f := f) (p := p) (c := c) (c' := c + 1) (by omega) (by omega) (fun i a b z => by
        have e : i = c := by omega
        subst e
        exact hA (AY_tc.mp z))
      have hlt := ht f p c hp lt hA
      rw [eR] at h0 h1
      refine ih p (c + 1) (step + 1) f _ hp (by omega) hf hlow ?_ (fun i h2 h3 => ?_) (by omega) (by omega) h0 h1
      · rw [pk_us, nI_1]
      · rw [pk_un (by omega)]; exact hup i h2 h3
    · refine pk_lt c 1 (fun lt => cb_br (by omega) (fun z => absurd z hpr) (fun _ => br_t rfl (D (by omega) ⟨fun z => absurd z hpr, fun _ => by omega⟩))) (fun ge => B (fun i h2 h3 z => by have := z.2 hpr; omega)) hcp rfl (by omega) (by omega)
