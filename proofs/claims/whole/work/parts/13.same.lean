/-! same, tight; our own -/
theorem y_sl {post : Int32 → SY → Prop} {N Be : Nat → Int32} {pr : Int32} {n k i j : Nat} (hn1 : 1 ≤ n) (hn : n ≤ 8) (hk1 : 1 ≤ k) (hk : k ≤ 8) (hi : i < n) (hj : j < n) : ∀ (R : List (Nat → Nat)) (g : Nat → Nat) (co : Nat → Int32) (c : Nat), up_ (AY Be pr) k n g n = R → (∀ i, i < n → g i < k) → (∀ i, i < n → co i = nI (g i)) → c + R.length ≤ 50000 → ((∀ h, h ∈ R → h i = h j) → ∀ a' co', post 1 (nI n, pr, a', N, Be, co')) → (¬ (∀ h, h ∈ R → h i = h j) → ∀ a' co', post 0 (nI n, pr, a', N, Be, co')) → ∀ fuel, R.length < fuel → wY_same_30 post (nI i) (nI j) (nI k) fuel (nI c) (nI n) pr (nI n) N Be co := by
  intro R
  induction R with
  | nil =>
    intro g co c e hg hco hc P1 P0 fuel hfu
    obtain ⟨m, rfl⟩ : ∃ m, fuel = m + 1 := ⟨fuel - 1, by omega⟩
    have P := P1 (fun h hh => by cases hh)
    refine br_c (fun _ => P _ _) (fun _ => y_n1 hn1 hn hk1 hk hg hco (fun _ co' => br_t rfl (P _ _)) (fun h e2 _ _ _ => ?_))
    rw [e] at e2
    cases e2
  | cons h0 R ih =>
    intro g co c e hg hco hc P1 P0 fuel hfu
    obtain ⟨m, rfl⟩ : ∃ m, fuel = m + 1 := ⟨fuel - 1, by omega⟩
    rw [List.length_cons] at hc hfu
    refine br_f (nI_ge (b := 50000) (by omega) (by decide)) (y_n1 hn1 hn hk1 hk hg hco (fun e2 co' => ?_) (fun h e2 hb co' m2 => br_f (by decide) ⟨cb_in hi hn, cb_in hj hn, ?_⟩))
    · rw [e] at e2
      cases e2
    · rw [e] at e2
      have e3 := (List.cons.inj e2).2
      have e4 := (List.cons.inj e2).1
      have bi := hb i hi
      have bj := hb j hj
      refine pk_eq (h i) (h j) (fun eq => nm_r (nI_1 c) (ih h co' (c + 1) e3.symm hb m2 (by omega) (fun z => P1 ?_) (fun z => P0 ?_) m (by omega))) (fun ne => P0 ?_ _ _) (by rw [nI_clamp (by omega), m2 i hi]) (by rw [nI_clamp (by omega), m2 j hj]) (by omega) (by omega)
      · intro h' hh
        rcases List.mem_cons.mp hh with w | w
        · rw [w, e4]; exact eq
        · exact z h' w
      · intro w
        exact z (fun h' hh => w h' (List.mem_cons_of_mem _ hh))
      · intro w
        have := w h0 (List.mem_cons_self)
        rw [e4] at this
        exact ne this
theorem y_s0 {post : Int32 → SY → Prop} {N Be co : Nat → Int32} {pr : Int32} {n k i j : Nat} (hn1 : 1 ≤ n) (hn : n ≤ 8) (hk1 : 1 ≤ k) (hk : k ≤ 8) (hi : i < n) (hj : j < n) (hco : ∀ i, i < 8 → co i = -1) (hc : (dl (AY Be pr) k n 0 (fun _ => 0)).length ≤ 50000) (P1 : (∀ h, h ∈ dl (AY Be pr) k n 0 (fun _ => 0) → h i = h j) → ∀ a' co', post 1 (nI n, pr, a', N, Be, co')) (P0 : ¬ (∀ h, h ∈ dl (AY Be pr) k n 0 (fun _ => 0) → h i = h j) → ∀ a' co', post 0 (nI n, pr, a', N, Be, co')) : ∃ fuel, wY_same_30 post (nI i) (nI j) (nI k) fuel 0 (nI n) pr 0 N Be co := by
  refine ⟨50002, ?_⟩
  refine br_f (by decide) (y_n0 hn1 hn hk1 hk hco (fun e2 co' => br_t rfl ?_) (fun h e2 hb co' m2 => br_f (by decide) ⟨cb_in hi hn, cb_in hj hn, ?_⟩))
  · exact P1 (fun h hh => by rw [e2] at hh; cases hh) _ _
  · rw [e2] at P1 P0
    rw [e2, List.length_cons] at hc
    have bi := hb i hi
    have bj := hb j hj
    refine pk_eq (h i) (h j) (fun eq => nm_e (y_sl hn1 hn hk1 hk hi hj _ h co' 1 rfl hb m2 (by omega) (fun z => P1 ?_) (fun z => P0 ?_) 50001 (by omega))) (fun ne => P0 ?_ _ _) (by rw [nI_clamp (by omega), m2 i hi]) (by rw [nI_clamp (by omega), m2 j hj]) (by omega) (by omega)
    · intro h' hh
      rcases List.mem_cons.mp hh with w | w
      · rw [w]; exact eq
      · exact z h' w
    · intro w
      exact z (fun h' hh => w h' (List.mem_cons_of_mem _ hh))
    · intro w
      exact ne (w h (List.mem_cons_self))
theorem x_link {post : SX → Prop} {n i j : Nat} {L t sh : Nat → Int32} (hi : i < 8) (hj : j < 8) (P : post (nI n, L, js t i j, sh)) : wpX_linkTrial post (nI n, L, t, sh) (nI i) (nI j) := by
  have ii : vp_in (nI i) 8 := vp_in_nI hi (by omega)
  have ij : vp_in (nI j) 8 := vp_in_nI hj (by omega)
  exact ⟨ii, ii, nm_r (e' := upd t i (t i ||| ((1 : Int32) <<< (nI j &&& 31)))) (by rw [nI_clamp (by omega)]) ⟨ij, ij, nm_r (e' := js t i j) (by rw [nI_clamp (by omega)]; rfl) P⟩⟩
theorem x_unlink {post : SX → Prop} {n i j : Nat} {L t sh : Nat → Int32} (hi : i < 8) (hj : j < 8) (P : post (nI n, L, jc t i j, sh)) : wpX_unlinkTrial post (nI n, L, t, sh) (nI i) (nI j) := by
  have ii : vp_in (nI i) 8 := vp_in_nI hi (by omega)
  have ij : vp_in (nI j) 8 := vp_in_nI hj (by omega)
  exact ⟨ii, ii, nm_r (e' := upd t i (t i &&& (((1 : Int32) <<< (nI j &&& 31)) ^^^ (-1)))) (by rw [nI_clamp (by omega)]) ⟨ij, ij, nm_r (e' := jc t i j) (by rw [nI_clamp (by omega)]; rfl) P⟩⟩
theorem js_cp {n i j : Nat} {L t : Nat → Int32} (hn : n ≤ 8) (hi : i < 8) (hj : j < 8) (ht : ∀ i, i < n → t i = L i) : ∀ p q, p < n → q < p → (tT (js t i j) p q ↔ tT (js L i j) p q) := by
  intro p q hp hq
  unfold tT
  rw [js_b hi hj (by omega), js_b hi hj (by omega), ht p hp]
theorem jc_cp {n i j : Nat} {L t : Nat → Int32} (hn : n ≤ 8) (hi : i < 8) (hj : j < 8) (ht : ∀ i, i < n → t i = L i) : ∀ p q, p < n → q < p → (tT (jc t i j) p q ↔ tT (jc L i j) p q) := by
  intro p q hp hq
  unfold tT
  rw [jc_b hi hj (by omega), jc_b hi hj (by omega), ht p hp]
/-- a colouring that tells i from j is one of the graph with the link -/
theorem sm_iff {n i j x y : Nat} {L : Nat → Int32} (hn : n ≤ 8) (hi : i < n) (hj : j < n) (hij : i ≠ j) (hx : Chi (Col (tT L) n) x) (hy : Chi (Col (tT (js L i j)) n) y) : y ≤ x ↔ ¬ ∀ h, h ∈ dl (AF (tT L)) x n 0 (fun _ => 0) → h i = h j := by
  constructor
  · intro hle hall
    obtain ⟨f, hf⟩ := Col_mono hle hy.2.1
    have hm : tc f n ∈ dl (AF (tT L)) x n 0 (fun _ => 0) := by
      rw [dl_mem (AF_loc _)]
      refine ⟨fun a ha => tc_g (by omega), fun a _ ha => ?_⟩
      rw [tc_l (by omega)]
      refine ⟨(hf a (by omega)).1, fun q hq t => ?_⟩
      rw [tc_l (by omega)]
      refine (hf a (by omega)).2 q hq ?_
      unfold tT at t ⊢
      rw [js_b (by omega) (by omega) (by omega)]
      exact Or.inl t
    have e := hall _ hm
    rw [tc_l hi, tc_l hj] at e
    rcases Nat.lt_or_gt_of_ne hij with z | z
    · refine (hf j hj).2 i z ?_ e
      unfold tT
      rw [js_b (by omega) (by omega) (by omega)]
      exact Or.inr (Or.inr ⟨rfl, rfl⟩)
    · refine (hf i hi).2 j z ?_ e.symm
      unfold tT
      rw [js_b (by omega) (by omega) (by omega)]
      exact Or.inr (Or.inl ⟨rfl, rfl⟩)
  · intro hno
    apply Classical.byContradiction
    intro z
    apply hno
    intro h hh
    rw [dl_mem (AF_loc _)] at hh
    apply Classical.byContradiction
    intro ne
    refine hy.2.2 x hx.1 (by omega) ⟨h, fun p hp => ?_⟩
    have a := hh.2 p (by omega) (by omega)
    refine ⟨a.1, fun q hq t => ?_⟩
    unfold tT at t
    rw [js_b (by omega) (by omega) (by omega)] at t
    rcases t with t | ⟨rfl, rfl⟩ | ⟨rfl, rfl⟩
    · exact a.2 q hq t
    · exact fun w => ne w.symm
    · exact fun w => ne w
theorem i_vc_same {k : Nat} {u : SX} {v : SY} (I : i_Rel k u v) (hk : k + 4 ≤ 2049) (v1 : Int32) (v2 : Int32) : wpX_same (fun r u' => wpY_same (fun r' v' => r' = r ∧ i_Rel (k + 4) u' v') v v1 v2) u v1 v2 := by
  obtain ⟨n, L, t, sh, pr, a, Be, co, h1, h8, hG, rfl, rfl⟩ := I
  obtain ⟨x, hxn, hx⟩ := Chi_n (T := tT L) h1
  have hb := dl_bound (tT L) h8 hx.1 (by omega) (fun _ => Chi_pre h1 hx)
  unfold wpX_same
  rcases pt_c v1 h8 with hp | ⟨i, hi, rfl⟩
  · refine x_pt0 hp (br_t rfl ?_)
    unfold wpY_same
    exact y_pt0 hp (br_t rfl ⟨rfl, rl_mk h1 h8 hG⟩)
  · rcases pt_c v2 h8 with hp | ⟨j, hj, rfl⟩
    · refine x_pt1 h8 hi (br_f (by decide) (x_pt0 hp (br_t rfl ?_)))
      unfold wpY_same
      exact y_pt1 h8 hi (br_f (by decide) (y_pt0 hp (br_t rfl ⟨rfl, rl_mk h1 h8 hG⟩)))
    · -- what the reference asks
      have Y : ∀ (r : Int32) (u' : SX), (∀ pr a Be co, i_Rel (k + 4) u' (nI n, pr, a, L, Be, co)) → ((∀ h, h ∈ dl (AF (tT L)) x n 0 (fun _ => 0) → h i = h j) → r = 1) → (¬ (∀ h, h ∈ dl (AF (tT L)) x n 0 (fun _ => 0) → h i = h j) → r = 0) → wpY_same (fun r' v' => r' = r ∧ i_Rel (k + 4) u' v') (nI n, pr, a, L, Be, co) (nI i) (nI j) := by
        intro r u' hR r1 r0
        unfold wpY_same
        refine y_pt1 h8 hi (br_f (by decide) (y_pt1 h8 hj (br_f (by decide) (y_chr h1 h8 hx (fun be co' h'' hA e2 hb2 m2 => y_begin (fun co1 hco1 => ?_))))))
        have eY : dl (AY be (((1 : Int32) <<< (nI n &&& 31)) - 1)) x n 0 (fun _ => 0) = dl (AF (tT L)) x n 0 (fun _ => 0) := dl_cg hA n 0 _ (by omega)
        refine y_s0 h1 h8 hx.1 (by omega) hi hj hco1 (by rw [eY]; exact hb) (fun z a' co'' => ⟨?_, hR _ _ _ _⟩) (fun z a' co'' => ⟨?_, hR _ _ _ _⟩)
        · rw [eY] at z
          exact (r1 z).symm
        · rw [eY] at z
          exact (r0 z).symm
      refine x_pt1 h8 hi (br_f (by decide) (x_pt1 h8 hj (br_f (by decide) (pk_eq i j (fun e => ?_) (fun e => ?_)))))
      · refine Y 1 _ (fun _ _ _ _ => rl_mk h1 h8 hG) (fun _ => rfl) (fun z => absurd (fun h _ => by rw [e]) z)
      · refine x_cp h8 (fun t' ht => ?_)
        obtain ⟨y, hyn, hy⟩ := Chi_n (T := tT (js L i j)) h1
        have hs := sm_iff h8 hi hj e hx hy
        refine x_lst h1 h8 (tT_cp ht) hx (fun sh' h' e1 m => x_link (by omega) (by omega) ?_)
        refine x_lst h1 h8 (js_cp h8 (by omega) (by omega) ht) hy (fun sh'' h'' e2 m2 => pk_le y x (fun le => ?_) (fun lt => ?_))
        · exact Y 0 _ (fun _ _ _ _ => rl_mk h1 h8 hG) (fun z => absurd z (hs.mp le)) (fun _ => rfl)
        · exact Y 1 _ (fun _ _ _ _ => rl_mk h1 h8 hG) (fun _ => rfl) (fun z => absurd (hs.mpr z) (by omega))
theorem js_jc {n i j : Nat} {L : Nat → Int32} (hn : n ≤ 8) (hi : i < n) (hj : j < n) (h1 : bt (L i) j = true) (h2 : bt (L j) i = true) : js (jc L i j) i j = L := by
  funext p
  apply b_ext
  intro q hq
  have e : bt (js (jc L i j) i j p) q = true ↔ bt (L p) q = true := by
    rw [js_b (by omega) (by omega) hq, jc_b (by omega) (by omega) hq]
    constructor
    · rintro (z | ⟨rfl, rfl⟩ | ⟨rfl, rfl⟩)
      · exact z.1
      · exact h1
      · exact h2
    · intro z
      by_cases w : (p = i ∧ q = j) ∨ (p = j ∧ q = i)
      · exact Or.inr w
      · exact Or.inl ⟨z, w⟩
  cases h3 : bt (js (jc L i j) i j p) q
  · cases h4 : bt (L p) q
    · rfl
    · rw [h3, h4] at e
      exact absurd (e.mpr rfl) (by decide)
  · exact (e.mp h3).symm
theorem i_vc_tight {k : Nat} {u : SX} {v : SY} (I : i_Rel k u v) (hk : k + 4 ≤ 2049) (v1 : Int32) (v2 : Int32) : wpX_tight (fun r u' => wpY_tight (fun r' v' => r' = r ∧ i_Rel (k + 4) u' v') v v1 v2) u v1 v2 := by
  obtain ⟨n, L, t, sh, pr, a, Be, co, h1, h8, hG, rfl, rfl⟩ := I
  obtain ⟨x, hxn, hx⟩ := Chi_n (T := tT L) h1
  unfold wpX_tight
  rcases pt_c v1 h8 with hp | ⟨i, hi, rfl⟩
  · refine x_pr0 h8 (Or.inl hp) (br_t rfl ?_)
    unfold wpY_tight
    exact y_pt0 hp (br_t rfl ⟨rfl, rl_mk h1 h8 hG⟩)
  · rcases pt_c v2 h8 with hp | ⟨j, hj, rfl⟩
    · refine x_pr0 h8 (Or.inr hp) (br_t rfl ?_)
      unfold wpY_tight
      exact y_pt1 h8 hi (br_f (by decide) (y_pt0 hp (br_t rfl ⟨rfl, rl_mk h1 h8 hG⟩)))
    · have ecl : (nI i).toNatClampNeg = i := nI_clamp (by omega)
      have Y0 : ¬ bt (L i) j = true → wpY_tight (fun r' v' => r' = 0 ∧ i_Rel (k + 4) (nI n, L, t, sh) v') (nI n, pr, a, L, Be, co) (nI i) (nI j) := by
        intro hn
        unfold wpY_tight
        exact y_pt1 h8 hi (br_f (by decide) (y_pt1 h8 hj (br_f (by decide) ⟨cb_in hi h8, cb_br (by omega) (fun z => absurd z (by rw [ecl]; exact hn)) (fun _ => br_t rfl ⟨rfl, rl_mk h1 h8 hG⟩)⟩)))
      refine x_pr1 h8 hi hj (fun e => br_t rfl ?_) (fun e => br_f (by decide) ⟨cb_in hi h8, cb_br (by omega) (fun b => br_f (by decide) ?_) (fun b => br_t rfl ?_)⟩)
      · subst e
        exact Y0 (hG.1 i hi)
      · rw [ecl] at b
        have b2 : bt (L j) i = true := (hG.2 i j hi hj).mp b
        obtain ⟨y, hyn, hy⟩ := Chi_n (T := tT (jc L i j)) h1
        have Y1 : ∀ (r : Int32) (u' : SX), (∀ pr a Be co, i_Rel (k + 4) u' (nI n, pr, a, L, Be, co)) → (x ≤ y → r = 0) → (y < x → r = 1) → wpY_tight (fun r' v' => r' = r ∧ i_Rel (k + 4) u' v') (nI n, pr, a, L, Be, co) (nI i) (nI j) := by
          intro r u' hR r0 r1
          unfold wpY_tight
          refine y_pt1 h8 hi (br_f (by decide) (y_pt1 h8 hj (br_f (by decide) ⟨cb_in hi h8, cb_br (by omega) (fun z => br_f (by decide) ?_) (fun z => absurd (by rw [ecl]; exact b) z)⟩)))
          refine y_chr h1 h8 hx (fun be co' h'' hA e2 hb2 m2 => y_put0 h8 hi hj ?_)
          refine y_chr h1 h8 hy (fun be co' h'' hA e2 hb2 m2 => y_put1 (by decide) h8 hi hj ?_)
          rw [js_jc h8 hi hj b b2]
          exact pk_le x y (fun le => ⟨(r0 le).symm, hR _ _ _ _⟩) (fun lt => ⟨(r1 lt).symm, hR _ _ _ _⟩)
        refine x_cp h8 (fun t' ht => ?_)
        refine x_lst h1 h8 (tT_cp ht) hx (fun sh' h' e1 m => x_unlink (by omega) (by omega) ?_)
        refine x_lst h1 h8 (jc_cp h8 (by omega) (by omega) ht) hy (fun sh'' h'' e2 m2 => pk_le x y (fun le => ?_) (fun lt => ?_))
        · exact Y1 0 _ (fun _ _ _ _ => rl_mk h1 h8 hG) (fun _ => rfl) (fun z => by omega)
        · exact Y1 1 _ (fun _ _ _ _ => rl_mk h1 h8 hG) (fun z => by omega) (fun _ => rfl)
      · rw [ecl] at b
        exact Y0 b
