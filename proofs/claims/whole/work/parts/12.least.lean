/-! chromatic, colour, ways; our own -/
theorem AF_cg {T T' : Nat → Nat → Prop} {p c : Nat} {f : Nat → Nat} (h : ∀ q, q < p → (T p q ↔ T' p q)) : AF T p f c ↔ AF T' p f c := ⟨fun a q hq t => a q hq ((h q hq).mpr t), fun a q hq t => a q hq ((h q hq).mp t)⟩
theorem AX_cg {T T' : Nat → Nat → Prop} {p c : Nat} {f : Nat → Nat} (h : ∀ q, q < p → (T p q ↔ T' p q)) : AX T p f c ↔ AX T' p f c := and_congr Iff.rfl (AF_cg h)
theorem Col_cg {T T' : Nat → Nat → Prop} {n : Nat} (h : ∀ p q, p < n → q < p → (T p q ↔ T' p q)) (k : Nat) : Col T n k ↔ Col T' n k := by
  constructor
  · rintro ⟨f, hf⟩
    exact ⟨f, fun p hp => ⟨(hf p hp).1, (AF_cg (fun q hq => h p q hp hq)).mp (hf p hp).2⟩⟩
  · rintro ⟨f, hf⟩
    exact ⟨f, fun p hp => ⟨(hf p hp).1, (AF_cg (fun q hq => h p q hp hq)).mpr (hf p hp).2⟩⟩
theorem Chi_cg {C D : Nat → Prop} {x : Nat} (h : ∀ j, 1 ≤ j → (C j ↔ D j)) (a : Chi C x) : Chi D x := ⟨a.1, (h x a.1).mp a.2.1, fun j h1 h2 z => a.2.2 j h1 h2 ((h j h1).mpr z)⟩
theorem Chi_n {T : Nat → Nat → Prop} {n : Nat} (hn : 1 ≤ n) : ∃ x, x ≤ n ∧ Chi (Col T n) x := Chi_e n hn (Col_n T n)
theorem Chi_le {T : Nat → Nat → Prop} {n x : Nat} (hn : 1 ≤ n) (h : Chi (Col T n) x) : x ≤ n := by
  apply Classical.byContradiction
  intro z
  exact h.2.2 n hn (by omega) (Col_n T n)
theorem Chi_pre {T : Nat → Nat → Prop} {n x : Nat} (hn : 1 ≤ n) (h : Chi (Col T n) x) : ¬ Col T n (x - 1) := by
  by_cases e : x = 1
  · subst e
    rintro ⟨f, hf⟩
    have := (hf 0 (by omega)).1
    omega
  · have := h.1
    exact h.2.2 (x - 1) (by omega) (by omega)
theorem x_lst {post : Int32 → SX → Prop} {L t sh : Nat → Int32} {n x : Nat} {T : Nat → Nat → Prop} (hn1 : 1 ≤ n) (hn : n ≤ 8) (hT : ∀ p q, p < n → q < p → (tT t p q ↔ T p q)) (hx : Chi (Col T n) x) (h : ∀ (sh' : Nat → Int32) (h : Nat → Nat), (dl (AF T) x n 0 (fun _ => 0)).head? = some h → (∀ i, i < n → sh' i = nI (h i)) → post (nI x) (nI n, L, t, sh')) : wpX_leastColours post (nI n, L, t, sh) := by
  refine x_least hn1 hn (Chi_cg (fun j _ => (Col_cg hT j).symm) hx) (fun sh' h' e m => h sh' h' ?_ m)
  rw [dl_hd, dl_cg (A := AF (tT t)) (A' := AF T) (n := n) (fun p f c hp => AF_cg (fun q hq => hT p q hp hq)) n 0 _ (by omega)] at e
  exact e
theorem y_all {n : Nat} (hn1 : 1 ≤ n) (hn : n ≤ 8) : ¬ ((1 : Int32) <<< (nI n &&& 31)) - 1 = 0 := by
  intro z
  have := cb_all n (by omega) 0 (by omega)
  rw [z, b_0, decide_eq_true (by omega)] at this
  cases this
theorem y_full {n : Nat} {L be : Nat → Int32} (hn : n ≤ 8) (hb : ∀ i, i < n → be i = L i &&& (((1 : Int32) <<< (nI n &&& 31)) - 1)) {p : Nat} {f : Nat → Nat} {c : Nat} (hp : p < n) : AY be (((1 : Int32) <<< (nI n &&& 31)) - 1) p f c ↔ AF (tT L) p f c := by
  have e : ∀ q, q < n → bt (((1 : Int32) <<< (nI n &&& 31)) - 1) q = true := fun q hq => by rw [cb_all n (by omega) q (by omega), decide_eq_true hq]
  have e2 : ∀ q, q < n → bt (be p) q = bt (L p) q := fun q hq => by rw [hb p hp, b_and, e q hq, Bool.and_true]
  constructor
  · intro a q hq t
    exact a.1 (e p hp) q hq (by rw [e2 q (by omega)]; exact t) (e q (by omega))
  · intro a
    refine ⟨fun _ q hq t _ => a q hq ?_, fun z => absurd (e p hp) z⟩
    rw [e2 q (by omega)] at t
    exact t
/-- the reference's fewest on all points -/
theorem y_lst {post : Int32 → SY → Prop} {N be co : Nat → Int32} {a pr : Int32} {n x : Nat} {T : Nat → Nat → Prop} (hn1 : 1 ≤ n) (hn : n ≤ 8) (hpr : ¬ pr = 0) (hA : ∀ p f c, p < n → (AY be pr p f c ↔ AF T p f c)) (hx : Chi (Col T n) x) (h : ∀ (co' : Nat → Int32) (h : Nat → Nat), dl (AF T) x n 0 (fun _ => 0) = h :: up_ (AY be pr) x n h n → (∀ i, i < n → h i < x) → (∀ i, i < n → co' i = nI (h i)) → post (nI x) (nI n, pr, nI n, N, be, co')) : wpY_fewest post (nI n, pr, a, N, be, co) := by
  have hx8 := Chi_le hn1 hx
  have hc : ∀ j, CY be pr n j ↔ Col T n j := by
    intro j
    constructor
    · rintro ⟨f, hf⟩
      exact ⟨f, fun p hp => ⟨(hf p hp).1, (hA p f _ hp).mp (hf p hp).2⟩⟩
    · rintro ⟨f, hf⟩
      exact ⟨f, fun p hp => ⟨(hf p hp).1, (hA p f _ hp).mpr (hf p hp).2⟩⟩
  refine y_few hn1 hn hpr (by omega) (Chi_cg (fun j _ => (hc j).symm) hx) (fun co' h' e hb m => h co' h' ?_ hb m)
  rw [← e]
  exact (dl_cg hA n 0 _ (by omega)).symm
theorem y_chr {post : Int32 → SY → Prop} {L Be co : Nat → Int32} {a pr : Int32} {n x : Nat} (hn1 : 1 ≤ n) (hn : n ≤ 8) (hx : Chi (Col (tT L) n) x) (h : ∀ (be co' : Nat → Int32) (h : Nat → Nat), (∀ p f c, p < n → (AY be (((1 : Int32) <<< (nI n &&& 31)) - 1) p f c ↔ AF (tT L) p f c)) → dl (AF (tT L)) x n 0 (fun _ => 0) = h :: up_ (AY be (((1 : Int32) <<< (nI n &&& 31)) - 1)) x n h n → (∀ i, i < n → h i < x) → (∀ i, i < n → co' i = nI (h i)) → post (nI x) (nI n, ((1 : Int32) <<< (nI n &&& 31)) - 1, nI n, L, be, co')) : wpY_chromatic post (nI n, pr, a, L, Be, co) := by
  unfold wpY_chromatic
  refine y_cpA hn (fun b hb => ?_)
  have hA : ∀ p f c, p < n → (AY b (((1 : Int32) <<< (nI n &&& 31)) - 1) p f c ↔ AF (tT L) p f c) := fun p f c hp => y_full hn hb hp
  exact y_lst hn1 hn (y_all hn1 hn) hA hx (fun co' h' e hb' m => h b co' h' hA e hb' m)
theorem tT_cp {n : Nat} {L t : Nat → Int32} (ht : ∀ i, i < n → t i = L i) : ∀ p q, p < n → q < p → (tT t p q ↔ tT L p q) := fun p q hp _ => by
  unfold tT
  rw [ht p hp]
theorem i_vc_chromatic {k : Nat} {u : SX} {v : SY} (I : i_Rel k u v) (hk : k + 4 ≤ 2049) : wpX_chromatic (fun r u' => wpY_chromatic (fun r' v' => r' = r ∧ i_Rel (k + 4) u' v') v) u := by
  obtain ⟨n, L, t, sh, pr, a, Be, co, h1, h8, hG, rfl, rfl⟩ := I
  obtain ⟨x, hxn, hx⟩ := Chi_n (T := tT L) h1
  unfold wpX_chromatic
  refine x_cp h8 (fun t' ht => ?_)
  refine x_lst h1 h8 (tT_cp ht) hx (fun sh' h' e m => ?_)
  exact y_chr h1 h8 hx (fun be co' h'' hA e2 hb m2 => ⟨rfl, rl_mk h1 h8 hG⟩)
theorem i_vc_colour {k : Nat} {u : SX} {v : SY} (I : i_Rel k u v) (hk : k + 4 ≤ 2049) (v1 : Int32) : wpX_colour (fun r u' => wpY_colour (fun r' v' => r' = r ∧ i_Rel (k + 4) u' v') v v1) u v1 := by
  obtain ⟨n, L, t, sh, pr, a, Be, co, h1, h8, hG, rfl, rfl⟩ := I
  obtain ⟨x, hxn, hx⟩ := Chi_n (T := tT L) h1
  unfold wpX_colour
  rcases pt_c v1 h8 with hp | ⟨i, hi, rfl⟩
  · refine x_pt0 hp (br_t rfl ?_)
    unfold wpY_colour
    exact y_pt0 hp (br_t rfl ⟨rfl, rl_mk h1 h8 hG⟩)
  · refine x_pt1 h8 hi (br_f (by decide) ?_)
    refine x_cp h8 (fun t' ht => ?_)
    refine x_lst h1 h8 (tT_cp ht) hx (fun sh' h' e m => ⟨cb_in hi h8, ?_⟩)
    unfold wpY_colour
    refine y_pt1 h8 hi (br_f (by decide) (y_chr h1 h8 hx (fun be co' h'' hA e2 hb m2 => ⟨cb_in hi h8, ?_, rl_mk h1 h8 hG⟩)))
    rw [e2] at e
    have e3 : h'' = h' := Option.some.inj e
    rw [nI_clamp (by omega), m i hi, m2 i hi, e3]
theorem x_wl {post : Int32 → SX → Prop} {F : Int32} {L t sh : Nat → Int32} {x c : Nat} (hx : x ≤ 8) (P : post (nI (c * fac x)) (F, L, t, sh)) : ∀ d i, i + d = x → ∀ fuel, d < fuel → wX_ways_19 post (nI x) F L t sh fuel (nI (c * fac i)) (nI (i + 1)) := by
  intro d
  induction d with
  | zero =>
    intro i hi fuel hfu
    obtain ⟨m, rfl⟩ : ∃ m, fuel = m + 1 := ⟨fuel - 1, by omega⟩
    have e : i = x := by omega
    subst e
    exact br_t (nI_lt (by omega) (by omega)) P
  | succ d ih =>
    intro i hi fuel hfu
    obtain ⟨m, rfl⟩ : ∃ m, fuel = m + 1 := ⟨fuel - 1, by omega⟩
    refine br_f (nI_nlt (by omega) (by omega)) (nm_r (e' := nI (c * fac (i + 1))) ?_ (nm_r (nI_1 _) (ih (i + 1) (by omega) m (by omega))))
    rw [pk_mul]
    show nI (c * fac i * (i + 1)) = nI (c * ((i + 1) * fac i))
    rw [Nat.mul_assoc, Nat.mul_comm (fac i)]
theorem y_wl {post : Int32 → SY → Prop} {N Be : Nat → Int32} {pr : Int32} {n k : Nat} (hn1 : 1 ≤ n) (hn : n ≤ 8) (hk1 : 1 ≤ k) (hk : k ≤ 8) : ∀ (R : List (Nat → Nat)) (g : Nat → Nat) (co : Nat → Int32) (c : Nat), up_ (AY Be pr) k n g n = R → (∀ i, i < n → g i < k) → (∀ i, i < n → co i = nI (g i)) → c + R.length ≤ 50000 → (∀ a' co', post (nI (c + R.length)) (nI n, pr, a', N, Be, co')) → ∀ fuel, R.length < fuel → wY_ways_13 post (nI k) fuel (nI c) (nI c) (nI n) pr (nI n) N Be co := by
  intro R
  induction R with
  | nil =>
    intro g co c e hg hco hc P fuel hfu
    obtain ⟨m, rfl⟩ : ∃ m, fuel = m + 1 := ⟨fuel - 1, by omega⟩
    rw [List.length_nil] at hc
    refine br_c (fun _ => P _ _) (fun _ => y_n1 hn1 hn hk1 hk hg hco (fun _ co' => br_t rfl (P _ _)) (fun h e2 _ _ _ => ?_))
    rw [e] at e2
    cases e2
  | cons h0 R ih =>
    intro g co c e hg hco hc P fuel hfu
    obtain ⟨m, rfl⟩ : ∃ m, fuel = m + 1 := ⟨fuel - 1, by omega⟩
    rw [List.length_cons] at hc hfu P
    refine br_f (nI_ge (b := 50000) (by omega) (by decide)) (y_n1 hn1 hn hk1 hk hg hco (fun e2 co' => ?_) (fun h e2 hb co' m2 => br_f (by decide) (nm_r (nI_1 c) (nm_r (nI_1 c) ?_))))
    · rw [e] at e2
      cases e2
    · rw [e] at e2
      have e3 := (List.cons.inj e2).2
      refine ih h co' (c + 1) e3.symm hb m2 (by omega) (fun a' co'' => ?_) m (by omega)
      rw [show c + 1 + R.length = c + (R.length + 1) by omega]
      exact P a' co''
theorem y_w0 {post : Int32 → SY → Prop} {N Be co : Nat → Int32} {pr : Int32} {n k : Nat} (hn1 : 1 ≤ n) (hn : n ≤ 8) (hk1 : 1 ≤ k) (hk : k ≤ 8) (hco : ∀ i, i < 8 → co i = -1) (hc : (dl (AY Be pr) k n 0 (fun _ => 0)).length ≤ 50000) (P : ∀ a' co', post (nI (dl (AY Be pr) k n 0 (fun _ => 0)).length) (nI n, pr, a', N, Be, co')) : ∃ fuel, wY_ways_13 post (nI k) fuel 0 0 (nI n) pr 0 N Be co := by
  refine ⟨50002, ?_⟩
  refine br_f (by decide) (y_n0 hn1 hn hk1 hk hco (fun e2 co' => br_t rfl ?_) (fun h e2 hb co' m2 => br_f (by decide) (nm_e (nm_e ?_))))
  · rw [e2] at P
    exact P _ _
  · rw [e2, List.length_cons] at P hc
    refine y_wl hn1 hn hk1 hk _ h co' 1 rfl hb m2 (by omega) (fun a' co'' => ?_) 50001 (by omega)
    rw [Nat.add_comm 1]
    exact P a' co''
theorem fac_pos : ∀ n, 1 ≤ fac n := by
  intro n
  induction n with
  | zero => exact Nat.le_refl 1
  | succ n ih =>
    show 1 ≤ (n + 1) * fac n
    exact Nat.mul_pos (by omega) ih
theorem i_vc_ways {k : Nat} {u : SX} {v : SY} (I : i_Rel k u v) (hk : k + 4 ≤ 2049) : wpX_ways (fun r u' => wpY_ways (fun r' v' => r' = r ∧ i_Rel (k + 4) u' v') v) u := by
  obtain ⟨n, L, t, sh, pr, a, Be, co, h1, h8, hG, rfl, rfl⟩ := I
  obtain ⟨x, hxn, hx⟩ := Chi_n (T := tT L) h1
  have hb := dl_bound (tT L) h8 hx.1 (by omega) (fun _ => Chi_pre h1 hx)
  have hw := dl_ways (tT L) hx.1 (Chi_pre h1 hx)
  have hl : (dl (AX (tT L)) x n 0 (fun _ => 0)).length ≤ 50000 := by
    have := Nat.mul_le_mul_right (dl (AX (tT L)) x n 0 (fun _ => 0)).length (fac_pos x)
    rw [← hw, Nat.one_mul] at this
    omega
  unfold wpX_ways
  refine x_cp h8 (fun t' ht => ?_)
  refine x_lst h1 h8 (tT_cp ht) hx (fun sh' h' e m => ?_)
  have eX : dl (AX (tT t')) x n 0 (fun _ => 0) = dl (AX (tT L)) x n 0 (fun _ => 0) := dl_cg (n := n) (fun p f c hp => AX_cg (fun q hq => tT_cp ht p q hp hq)) n 0 _ (by omega)
  refine x_cc (most := 1000000) h1 h8 (by omega) (by omega) (by omega) (Or.inr (by rw [eX]; omega)) (fun _ sh'' => ⟨x + 1, ?_⟩) (fun _ _ _ z => by omega)
  rw [eX]
  have hx1 := hx.1
  have W := x_wl (post := fun r u' => wpY_ways (fun r' v' => r' = r ∧ i_Rel (k + 4) u' v') (nI n, pr, a, L, Be, co)) (F := nI n) (L := L) (t := t') (sh := sh'') (x := x) (c := (dl (AX (tT L)) x n 0 (fun _ => 0)).length) (by omega) ?_ (x - 1) 1 (by omega) (x + 1) (by omega)
  · rw [show (dl (AX (tT L)) x n 0 (fun _ => 0)).length * fac 1 = (dl (AX (tT L)) x n 0 (fun _ => 0)).length from Nat.mul_one _] at W
    exact W
  · unfold wpY_ways
    refine y_chr h1 h8 hx (fun be co' h'' hA e2 hb2 m2 => y_begin (fun co1 hco1 => ?_))
    have eY : dl (AY be (((1 : Int32) <<< (nI n &&& 31)) - 1)) x n 0 (fun _ => 0) = dl (AF (tT L)) x n 0 (fun _ => 0) := dl_cg hA n 0 _ (by omega)
    refine y_w0 h1 h8 hx.1 (by omega) hco1 (by rw [eY]; exact hb) (fun a' co'' => ⟨?_, rl_mk h1 h8 hG⟩)
    rw [eY, hw, Nat.mul_comm]
