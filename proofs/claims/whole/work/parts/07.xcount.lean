/-! the component's count of colourings, and the least number of colours; our own -/
theorem cb_ne1 : ∀ c, c < 16 → ¬ nI c = -1 := by decide
theorem cb_m10 : (-1 : Int32) + 1 = nI 0 := by decide
def bX (p : Nat) : Nat := p + 1
theorem x_count {post : Int32 → SX → Prop} {L t : Nat → Int32} {n k most : Nat} (hn : n ≤ 8) (hk : k ≤ 8) (hm : most ≤ 1000000) : ∀ (fuel found p c step : Nat) (f : Nat → Nat) (sh : Nat → Int32), p < n → c ≤ p + 1 → (∀ q, q < p → f q ≤ q) → (∀ q, q < p → sh q = nI (f q)) → sh p + 1 = nI c → found < most → step + mM bX n f p c ≤ 1000000 → mM bX n f p c < fuel → (found + 1 = most ∨ found + (rm_ (AX (tT t)) k n f p c).length < most) → (found + (rm_ (AX (tT t)) k n f p c).length < most → ∀ sh', post (nI (found + (rm_ (AX (tT t)) k n f p c).length)) (nI n, L, t, sh')) → (∀ h tl, rm_ (AX (tT t)) k n f p c = h :: tl → found + 1 = most → ∀ sh' : Nat → Int32, (∀ i, i < n → sh' i = nI (h i)) → post (nI most) (nI n, L, t, sh')) → wX_countColourings_15 post (nI k) (nI most) (nI n) fuel (nI found) (nI p) (nI step) L t sh := by
  intro fuel
  induction fuel with
  | zero => intro found p c step f sh _ _ _ _ _ _ _ h; omega
  | succ m ih =>
    intro found p c step f sh hp hc hf hs hsp hfm hst hfu hal h0 h1
    have hpos := mM_pos (b := bX) (n := n) (f := f) (p := p) (c := c) (by unfold bX; omega)
    have hcl : (nI p).toNatClampNeg = p := nI_clamp (by omega)
    have hin : vp_in (nI p) 8 := vp_in_nI (by omega) (by omega)
    have hU := fU_le (f := f) p hf
    refine br_f (nI_ge (b := 1000000) (by omega) (by decide)) (br_f (nI_pos (by omega)) (br_f (nI_ge (by omega) (by omega)) ?_))
    refine x_next (f := f) (c0 := c) (by omega) hk (by omega) hs hf hsp (fun hno => ?_) (fun c' hc1 hc2 hA hno => ?_)
    · refine ⟨hin, nm_r (e' := upd sh p (-1)) (by rw [hcl]) (br_t rfl ?_)⟩
      cases p with
      | zero =>
        obtain ⟨m', rfl⟩ : ∃ m', m = m' + 1 := ⟨m - 1, by omega⟩
        have e : rm_ (AX (tT t)) k n f 0 c = [] := rm_end (fun i a b z => hno i a b (AX_tc.mp z))
        rw [e] at h0
        have P := h0 (show found + 0 < most from hfm) (upd sh 0 (-1))
        exact nm_e (nm_e (br_c (fun _ => P) (fun _ => br_t (by decide) P)))
      | succ q =>
        have e : rm_ (AX (tT t)) k n f (q + 1) c = rm_ (AX (tT t)) k n f q (f q + 1) := rm_pop (fun i a b z => hno i a b (AX_tc.mp z))
        have hlt := mM_pop (b := bX) (n := n) (f := f) (p := q) (c := c) (by unfold bX; omega)
        rw [e] at h0 h1 hal
        have hfq := hf q (by omega)
        refine nm_r (pk_m1 q) (nm_r (nI_1 step) (ih found q (f q + 1) (step + 1) f _ (by omega) (by omega) (fun a ha => hf a (by omega)) (fun a ha => ?_) ?_ hfm (by omega) (by omega) hal h0 h1))
        · rw [pk_un (by omega), hs a (by omega)]
        · rw [pk_un (by omega), hs q (by omega), nI_1]
    · have hcp : c' ≤ p := Nat.le_trans hA.1 hU
      have eS : rm_ (AX (tT t)) k n f p c = rm_ (AX (tT t)) k n f p c' := rm_skip hc1 (by omega) (fun i a b z => hno i a b (AX_tc.mp z))
      have hMl := mM_le (b := bX) (n := n) (f := f) (p := p) hc1
      refine ⟨hin, nm_r (e' := upd sh p (nI c')) (by rw [hcl]) (br_f (cb_ne1 c' (by omega)) ?_)⟩
      have en : nI n - 1 = nI (n - 1) := by
        obtain ⟨n', rfl⟩ : ∃ n', n = n' + 1 := ⟨n - 1, by omega⟩
        exact nI_pred n'
      refine pk_eq p (n - 1) (fun e1 => ?_) (fun e1 => ?_) rfl en (by omega) (by omega)
      · have eR : rm_ (AX (tT t)) k n f p c = tc (fu f p c') n :: rm_ (AX (tT t)) k n (fu f p c') p (c' + 1) := by
          rw [eS]
          exact rm_leaf (by omega) hc2 (AX_tc.mpr hA)
        rw [eR] at h0 hal
        rw [List.length_cons] at h0 hal
        refine nm_r (nI_1 found) (nm_r (nI_1 step) ?_)
        have hlt := mM_lt (b := bX) (n := n) (f := f) (p := p) (c := c') (c' := c' + 1) (by omega) (by unfold bX; omega)
        by_cases z : found + 1 = most
        · obtain ⟨m', rfl⟩ : ∃ m', m = m' + 1 := ⟨m - 1, by omega⟩
          have P := h1 _ _ eR z (upd sh p (nI c')) (fun i hi => by
            by_cases w : i = p
            · subst w; rw [pk_us, tc_l hi, fu_s]
            · rw [pk_un w, tc_l hi, fu_n w, hs i (by omega)])
          rw [z]
          exact br_c (fun _ => P) (fun _ => br_c (fun _ => P) (fun _ => br_t (nI_le (Nat.le_refl most) (by omega)) P))
        · have hal2 : found + ((rm_ (AX (tT t)) k n (fu f p c') p (c' + 1)).length + 1) < most := by
            rcases hal with a | a
            · exact absurd a z
            · exact a
          refine ih (found + 1) p (c' + 1) (step + 1) (fu f p c') _ hp (by omega) (fun a ha => ?_) (fun a ha => ?_) ?_ (by omega) (by rw [mM_fu]; omega) (by rw [mM_fu]; omega) (Or.inr (by omega)) (fun ha sh' => ?_) (fun h tl e3 e4 => ?_)
          · rw [fu_n (by omega)]; exact hf a ha
          · rw [pk_un (by omega), fu_n (by omega)]; exact hs a ha
          · rw [pk_us, nI_1]
          · have := h0 hal2 sh'
            rw [show found + 1 + (rm_ (AX (tT t)) k n (fu f p c') p (c' + 1)).length = found + ((rm_ (AX (tT t)) k n (fu f p c') p (c' + 1)).length + 1) by omega]
            exact this
          · rw [e3, List.length_cons] at hal2
            omega
      · have eR : rm_ (AX (tT t)) k n f p c = rm_ (AX (tT t)) k n (fu f p c') (p + 1) 0 := by
          rw [eS]
          exact rm_down (by omega) hc2 (AX_tc.mpr hA)
        rw [eR] at h0 h1 hal
        have hlt := mM_down (b := bX) (n := n) (f := f) (p := p) (c := c') (by omega) (by unfold bX; omega)
        refine nm_r (nI_1 p) ⟨vp_in_nI (by omega) (by omega), nm_r (e' := upd (upd sh p (nI c')) (p + 1) (-1)) (by rw [nI_clamp (by omega)]) (nm_r (nI_1 step) ?_)⟩
        refine ih found (p + 1) 0 (step + 1) (fu f p c') _ (by omega) (by omega) (fun a ha => ?_) (fun a ha => ?_) ?_ hfm (by omega) (by omega) hal h0 h1
        · by_cases w : a = p
          · subst w; rw [fu_s]; exact hcp
          · rw [fu_n w]; exact hf a (by omega)
        · by_cases w : a = p
          · subst w; rw [pk_un (by omega), pk_us, fu_s]
          · rw [pk_un (by omega), pk_un w, fu_n w]; exact hs a (by omega)
        · rw [pk_us]; exact cb_m10
theorem bX_s : ∀ n, n < 9 → ms bX n 0 ≤ 52147 := by decide +kernel
theorem x_cc {post : Int32 → SX → Prop} {L t sh : Nat → Int32} {n k most : Nat} (hn1 : 1 ≤ n) (hn : n ≤ 8) (hk : k ≤ 8) (hm0 : 1 ≤ most) (hm : most ≤ 1000000) (hal : 1 = most ∨ (dl (AX (tT t)) k n 0 (fun _ => 0)).length < most) (h0 : (dl (AX (tT t)) k n 0 (fun _ => 0)).length < most → ∀ sh', post (nI (dl (AX (tT t)) k n 0 (fun _ => 0)).length) (nI n, L, t, sh')) (h1 : ∀ h tl, dl (AX (tT t)) k n 0 (fun _ => 0) = h :: tl → 1 = most → ∀ sh' : Nat → Int32, (∀ i, i < n → sh' i = nI (h i)) → post (nI most) (nI n, L, t, sh')) : wpX_countColourings post (nI n, L, t, sh) (nI k) (nI most) := by
  have e := rm_0 (AX (tT t)) k (fun _ => 0) hn1
  have hms := bX_s n (by omega)
  have hM := mM_0 (b := bX) (f := fun _ => 0) hn1
  rw [← e] at hal h0 h1
  refine nm_e ⟨1000000, ?_⟩
  refine x_count hn hk hm 1000000 0 0 0 0 (fun _ => 0) _ (by omega) (by omega) (fun q hq => by omega) (fun q hq => by omega) ?_ (by omega) (by omega) (by omega) (by rw [Nat.zero_add, Nat.zero_add]; exact hal) (by rw [Nat.zero_add]; exact h0) (by rw [Nat.zero_add]; exact h1)
  rw [pk_us]
  exact cb_m10
/-- leastColours answers the least number, and leaves the first colouring -/
theorem x_lc {post : Int32 → SX → Prop} {L t : Nat → Int32} {n x : Nat} (hn1 : 1 ≤ n) (hn : n ≤ 8) (hx : Chi (Col (tT t) n) x) (h : ∀ (sh' : Nat → Int32) (h : Nat → Nat), (dl (AX (tT t)) x n 0 (fun _ => 0)).head? = some h → (∀ i, i < n → sh' i = nI (h i)) → post (nI x) (nI n, L, t, sh')) : ∀ (d k : Nat) (sh : Nat → Int32), 1 ≤ k → k + d = x → ∀ fuel, d < fuel → wX_leastColours_2 post fuel (nI k) (nI n) L t sh := by
  obtain ⟨x1, x2, x3⟩ := hx
  have hxn : x ≤ n := by
    apply Classical.byContradiction
    intro z
    exact x3 n hn1 (by omega) (Col_n _ n)
  intro d
  induction d with
  | zero =>
    intro k sh hk1 hkx fuel hfu
    obtain ⟨m, rfl⟩ : ∃ m, fuel = m + 1 := ⟨fuel - 1, by omega⟩
    have e : k = x := by omega
    subst e
    refine br_f (nI_nlt (by omega) (by omega)) ?_
    refine x_cc (most := 1) hn1 hn (by omega) (by omega) (by omega) (Or.inl rfl) (fun z sh' => ?_) (fun h' tl e1 _ sh' hsh => ?_)
    · exact absurd (List.length_eq_zero_iff.mp (by omega)) ((dx_col _ _ _).mpr x2)
    · exact br_t rfl (h sh' h' (by rw [e1]; rfl) hsh)
  | succ d ih =>
    intro k sh hk1 hkx fuel hfu
    obtain ⟨m, rfl⟩ : ∃ m, fuel = m + 1 := ⟨fuel - 1, by omega⟩
    have e0 : dl (AX (tT t)) k n 0 (fun _ => 0) = [] := by
      apply Classical.byContradiction
      intro z
      exact x3 k hk1 (by omega) ((dx_col _ _ _).mp z)
    refine br_f (nI_nlt (by omega) (by omega)) ?_
    refine x_cc (most := 1) hn1 hn (by omega) (by omega) (by omega) (Or.inl rfl) (fun z sh' => ?_) (fun h' tl e1 _ sh' hsh => ?_)
    · rw [e0]
      exact br_f (by decide) (nm_r (nI_1 k) (ih (k + 1) sh' (by omega) (by omega) m (by omega)))
    · rw [e0] at e1
      cases e1
theorem x_least {post : Int32 → SX → Prop} {L t sh : Nat → Int32} {n x : Nat} (hn1 : 1 ≤ n) (hn : n ≤ 8) (hx : Chi (Col (tT t) n) x) (h : ∀ (sh' : Nat → Int32) (h : Nat → Nat), (dl (AX (tT t)) x n 0 (fun _ => 0)).head? = some h → (∀ i, i < n → sh' i = nI (h i)) → post (nI x) (nI n, L, t, sh')) : wpX_leastColours post (nI n, L, t, sh) :=
  ⟨x + 1, x_lc hn1 hn hx h (x - 1) 1 sh (by omega) (by have := hx.1; omega) (x + 1) (by omega)⟩
theorem x_copy {post : SX → Prop} {L sh : Nat → Int32} {n : Nat} (hn : n ≤ 8) (h : ∀ t' : Nat → Int32, (∀ i, i < n → t' i = L i) → post (nI n, L, t', sh)) : ∀ (d p : Nat) (t : Nat → Int32), p + d = n → (∀ i, i < p → t i = L i) → ∀ fuel, d < fuel → wX_copyLinks_2 post (nI n) fuel (nI p) L t sh := by
  intro d
  induction d with
  | zero =>
    intro p t hp ht fuel hfu
    obtain ⟨m, rfl⟩ : ∃ m, fuel = m + 1 := ⟨fuel - 1, by omega⟩
    exact br_t (nI_le (by omega) (by omega)) (h t (fun i hi => ht i (by omega)))
  | succ d ih =>
    intro p t hp ht fuel hfu
    obtain ⟨m, rfl⟩ : ∃ m, fuel = m + 1 := ⟨fuel - 1, by omega⟩
    have hin : vp_in (nI p) 8 := vp_in_nI (by omega) (by omega)
    refine br_f (nI_ge (by omega) (by omega)) ⟨hin, hin, nm_r (e' := upd t p (L p)) (by rw [nI_clamp (by omega)]) (nm_r (nI_1 p) (ih (p + 1) _ (by omega) (fun i hi => ?_) m (by omega)))⟩
    by_cases e : i = p
    · subst e; rw [pk_us]
    · rw [pk_un e]; exact ht i (by omega)
theorem x_cp {post : SX → Prop} {L t sh : Nat → Int32} {n : Nat} (hn : n ≤ 8) (h : ∀ t' : Nat → Int32, (∀ i, i < n → t' i = L i) → post (nI n, L, t', sh)) : wpX_copyLinks post (nI n, L, t, sh) :=
  ⟨n + 1, x_copy hn h n 0 t (by omega) (fun i hi => by omega) (n + 1) (by omega)⟩
