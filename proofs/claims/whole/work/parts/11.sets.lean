/-! clique, cliqueSet, free; our own -/
/-- how many of the first p bits x has -/
def pc (x : Int32) : Nat → Nat
  | 0 => 0
  | p + 1 => pc x p + (if bt x p = true then 1 else 0)
theorem pc_le (x : Int32) : ∀ p, pc x p ≤ p := by
  intro p
  induction p with
  | zero => exact Nat.le_refl 0
  | succ p ih =>
    show pc x p + (if bt x p = true then 1 else 0) ≤ p + 1
    split <;> omega
theorem pc_00 : pc (nI 0) 8 = 0 := by decide +kernel
theorem cb_val (x : Int32) (q : Nat) (hq : q < 32) : ((x >>> (nI q &&& 31)) &&& 1) = nI (if bt x q = true then 1 else 0) := by
  by_cases h : bt x q = true
  · rw [if_pos h]
    exact (cb_bit x q hq).mpr h
  · rw [if_neg h, nI_0, cb_zero]
    intro i hi
    rw [b_and, cb_1 i hi, b_sshr q hq x hi]
    by_cases e : i = 0
    · subst e
      simp [hq, cb_bf h]
    · simp [e]
theorem nI_bt (s i : Nat) (hi : i < 32) : bt (nI s) i = s.testBit i := by
  show (BitVec.ofNat 32 s).getLsbD i = _
  rw [BitVec.getLsbD_ofNat]
  simp [hi]
theorem nI_hi {s n i : Nat} (hs : s < 2 ^ n) (hi : n ≤ i) (hi2 : i < 32) : bt (nI s) i = false := by
  rw [nI_bt s i hi2]
  exact Nat.testBit_lt_two_pow (Nat.lt_of_lt_of_le hs (Nat.pow_le_pow_right (by omega) hi))
theorem pc_n {s n : Nat} (hs : s < 2 ^ n) (hn : n ≤ 8) : pc (nI s) 8 = pc (nI s) n := by
  have h : ∀ d, n + d ≤ 8 → pc (nI s) (n + d) = pc (nI s) n := by
    intro d
    induction d with
    | zero => intro _; rfl
    | succ d ih =>
      intro hd
      show pc (nI s) (n + d) + (if bt (nI s) (n + d) = true then 1 else 0) = _
      rw [nI_hi hs (by omega) (by omega), if_neg (by decide), ih (by omega)]
      exact Nat.add_zero _
  have := h (8 - n) (by omega)
  rw [show n + (8 - n) = 8 by omega] at this
  exact this
theorem x_sz {post : Int32 → Prop} {x : Int32} (P : post (nI (pc x 8))) : wpX_sizeOf post x := by
  have h : ∀ d p, p + d = 8 → ∀ fuel, d < fuel → wX_sizeOf_4 post x fuel (nI (pc x p)) (nI p) := by
    intro d
    induction d with
    | zero =>
      intro p hp fuel hfu
      obtain ⟨m, rfl⟩ : ∃ m, fuel = m + 1 := ⟨fuel - 1, by omega⟩
      have e : p = 8 := by omega
      subst e
      exact br_t (by decide) P
    | succ d ih =>
      intro p hp fuel hfu
      obtain ⟨m, rfl⟩ : ∃ m, fuel = m + 1 := ⟨fuel - 1, by omega⟩
      exact br_f (nI_ge (b := 8) (by omega) (by omega)) (nm_r (e' := nI (pc x (p + 1))) (by rw [cb_val x p (by omega), nI_add]; rfl) (nm_r (nI_1 p) (ih (p + 1) (by omega) m (by omega))))
  exact ⟨9, h 8 0 (by omega) 9 (by omega)⟩
theorem y_sz {post : Int32 → Prop} {n : Nat} {pr a : Int32} {L Be co : Nat → Int32} {x : Int32} (hn : n ≤ 8) (P : post (nI (pc x n))) : wpY_sizeOf post (nI n, pr, a, L, Be, co) x := by
  have h : ∀ d p, p + d = n → ∀ fuel, d < fuel → wY_sizeOf_4 post x (nI n) pr a L Be co fuel (nI (pc x p)) (nI p) := by
    intro d
    induction d with
    | zero =>
      intro p hp fuel hfu
      obtain ⟨m, rfl⟩ : ∃ m, fuel = m + 1 := ⟨fuel - 1, by omega⟩
      have e : p = n := by omega
      subst e
      exact br_t (nI_le (Nat.le_refl _) (by omega)) P
    | succ d ih =>
      intro p hp fuel hfu
      obtain ⟨m, rfl⟩ : ∃ m, fuel = m + 1 := ⟨fuel - 1, by omega⟩
      have hr := ih (p + 1) (by omega) m (by omega)
      refine br_f (nI_ge (by omega) (by omega)) (cb_br (by omega) (fun b => br_f (by decide) (nm_r (nI_1 _) (nm_r (nI_1 p) ?_))) (fun b => br_t rfl (nm_r (nI_1 p) ?_)))
      · rw [show pc x (p + 1) = pc x p + 1 by show pc x p + (if bt x p = true then 1 else 0) = _; rw [if_pos b]] at hr
        exact hr
      · rw [show pc x (p + 1) = pc x p by show pc x p + (if bt x p = true then 1 else 0) = _; rw [if_neg b]; rfl] at hr
        exact hr
  exact ⟨n + 1, h n 0 (by omega) (n + 1) (by omega)⟩
/-- the points of x are all joined; none is -/
def Cq (L : Nat → Int32) (n : Nat) (x : Int32) : Prop := ∀ p, p < n → bt x p = true → (x &&& (((1 : Int32) <<< (nI p &&& 31)) ^^^ (-1))) &&& (L p ^^^ (-1)) = 0
def Fq (L : Nat → Int32) (n : Nat) (x : Int32) : Prop := ∀ p, p < n → bt x p = true → x &&& L p = 0
theorem cq_e {L : Nat → Int32} {x : Int32} {p : Nat} (hp : p < 8) (hL : ¬ bt (L p) p = true) (hx : bt x p = true) : x &&& (L p ^^^ (-1)) = (1 : Int32) <<< (nI p &&& 31) ↔ (x &&& (((1 : Int32) <<< (nI p &&& 31)) ^^^ (-1))) &&& (L p ^^^ (-1)) = 0 := by
  rw [cb_zero]
  constructor
  · intro h i hi
    have e : bt (x &&& (L p ^^^ (-1))) i = bt ((1 : Int32) <<< (nI p &&& 31)) i := by rw [h]
    rw [b_and, cb_not _ _ hi, cb_sh1 p hp i hi] at e
    rw [b_and, cb_clr _ _ _ hp hi, cb_not _ _ hi]
    by_cases z : i = p
    · simp [z]
    · rw [decide_eq_false z] at e ⊢
      rw [Bool.not_false, Bool.and_true]
      exact e
  · intro h
    apply b_ext
    intro i hi
    have e := h i hi
    rw [b_and, cb_clr _ _ _ hp hi, cb_not _ _ hi] at e
    rw [b_and, cb_not _ _ hi, cb_sh1 p hp i hi]
    by_cases z : i = p
    · subst z
      rw [hx, cb_bf hL]
      simp
    · rw [decide_eq_false z] at e ⊢
      rw [Bool.not_false, Bool.and_true] at e
      exact e
theorem x_cq {post : Int32 → Prop} {n : Nat} {L t sh : Nat → Int32} {x : Int32} (hn : n ≤ 8) (P1 : Cq L n x → post 1) (P0 : ¬ Cq L n x → post 0) : wpX_isClique post (nI n, L, t, sh) x := by
  have h : ∀ d p, p + d = n → (∀ q, q < p → bt x q = true → (x &&& (((1 : Int32) <<< (nI q &&& 31)) ^^^ (-1))) &&& (L q ^^^ (-1)) = 0) → ∀ fuel, d < fuel → wX_isClique_2 post x (nI n) L t sh fuel (nI p) := by
    intro d
    induction d with
    | zero =>
      intro p hp hq fuel hfu
      obtain ⟨m, rfl⟩ : ∃ m, fuel = m + 1 := ⟨fuel - 1, by omega⟩
      exact br_t (nI_le (by omega) (by omega)) (P1 (fun q h2 => hq q (by omega)))
    | succ d ih =>
      intro p hp hq fuel hfu
      obtain ⟨m, rfl⟩ : ∃ m, fuel = m + 1 := ⟨fuel - 1, by omega⟩
      refine br_f (nI_ge (by omega) (by omega)) (nm_e (cb_br (by omega) (fun b => ⟨vp_in_nI (by omega) (by omega), ?_⟩) (fun b => nm_r (nI_1 p) ?_)))
      · rw [nI_clamp (show p < 2 ^ 31 by omega)]
        refine br_c (fun e => nm_r (nI_1 p) (ih (p + 1) (by omega) (fun q h2 h3 => ?_) m (by omega))) (fun e => P0 (fun z => e (z p (by omega) b)))
        by_cases w : q = p
        · subst w; exact e
        · exact hq q (by omega) h3
      · refine ih (p + 1) (by omega) (fun q h2 h3 => ?_) m (by omega)
        by_cases w : q = p
        · subst w; exact absurd h3 b
        · exact hq q (by omega) h3
  exact ⟨n + 1, h n 0 (by omega) (fun q hq => by omega) (n + 1) (by omega)⟩
theorem y_cq {post : Int32 → Prop} {n : Nat} {pr a : Int32} {L Be co : Nat → Int32} {x : Int32} (hn : n ≤ 8) (hG : Gr n L) (P1 : Cq L n x → post 1) (P0 : ¬ Cq L n x → post 0) : wpY_isClique post (nI n, pr, a, L, Be, co) x := by
  have h : ∀ d p, p + d = n → (∀ q, q < p → bt x q = true → (x &&& (((1 : Int32) <<< (nI q &&& 31)) ^^^ (-1))) &&& (L q ^^^ (-1)) = 0) → ∀ fuel, d < fuel → wY_isClique_2 post x (nI n) pr a L Be co fuel (nI p) := by
    intro d
    induction d with
    | zero =>
      intro p hp hq fuel hfu
      obtain ⟨m, rfl⟩ : ∃ m, fuel = m + 1 := ⟨fuel - 1, by omega⟩
      exact br_t (nI_le (by omega) (by omega)) (P1 (fun q h2 => hq q (by omega)))
    | succ d ih =>
      intro p hp hq fuel hfu
      obtain ⟨m, rfl⟩ : ∃ m, fuel = m + 1 := ⟨fuel - 1, by omega⟩
      refine br_f (nI_ge (by omega) (by omega)) (cb_br (by omega) (fun b => br_f (by decide) ⟨vp_in_nI (by omega) (by omega), ?_⟩) (fun b => br_t rfl (nm_r (nI_1 p) ?_)))
      · rw [nI_clamp (show p < 2 ^ 31 by omega), cq_e (by omega) (hG.1 p (by omega)) b]
        refine br_c (fun e => nm_r (nI_1 p) (ih (p + 1) (by omega) (fun q h2 h3 => ?_) m (by omega))) (fun e => P0 (fun z => e (z p (by omega) b)))
        by_cases w : q = p
        · subst w; exact e
        · exact hq q (by omega) h3
      · refine ih (p + 1) (by omega) (fun q h2 h3 => ?_) m (by omega)
        by_cases w : q = p
        · subst w; exact absurd h3 b
        · exact hq q (by omega) h3
  exact ⟨n + 1, h n 0 (by omega) (fun q hq => by omega) (n + 1) (by omega)⟩
theorem x_fq {post : Int32 → Prop} {n : Nat} {L t sh : Nat → Int32} {x : Int32} (hn : n ≤ 8) (P1 : Fq L n x → post 1) (P0 : ¬ Fq L n x → post 0) : wpX_isFree post (nI n, L, t, sh) x := by
  have h : ∀ d p, p + d = n → (∀ q, q < p → bt x q = true → x &&& L q = 0) → ∀ fuel, d < fuel → wX_isFree_2 post x (nI n) L t sh fuel (nI p) := by
    intro d
    induction d with
    | zero =>
      intro p hp hq fuel hfu
      obtain ⟨m, rfl⟩ : ∃ m, fuel = m + 1 := ⟨fuel - 1, by omega⟩
      exact br_t (nI_le (by omega) (by omega)) (P1 (fun q h2 => hq q (by omega)))
    | succ d ih =>
      intro p hp hq fuel hfu
      obtain ⟨m, rfl⟩ : ∃ m, fuel = m + 1 := ⟨fuel - 1, by omega⟩
      refine br_f (nI_ge (by omega) (by omega)) (cb_br (by omega) (fun b => ⟨vp_in_nI (by omega) (by omega), ?_⟩) (fun b => nm_r (nI_1 p) ?_))
      · rw [nI_clamp (show p < 2 ^ 31 by omega)]
        refine br_c (fun e => nm_r (nI_1 p) (ih (p + 1) (by omega) (fun q h2 h3 => ?_) m (by omega))) (fun e => P0 (fun z => e (z p (by omega) b)))
        by_cases w : q = p
        · subst w; exact e
        · exact hq q (by omega) h3
      · refine ih (p + 1) (by omega) (fun q h2 h3 => ?_) m (by omega)
        by_cases w : q = p
        · subst w; exact absurd h3 b
        · exact hq q (by omega) h3
  exact ⟨n + 1, h n 0 (by omega) (fun q hq => by omega) (n + 1) (by omega)⟩
theorem y_fq {post : Int32 → Prop} {n : Nat} {pr a : Int32} {L Be co : Nat → Int32} {x : Int32} (hn : n ≤ 8) (P1 : Fq L n x → post 1) (P0 : ¬ Fq L n x → post 0) : wpY_isFree post (nI n, pr, a, L, Be, co) x := by
  have h : ∀ d p, p + d = n → (∀ q, q < p → bt x q = true → x &&& L q = 0) → ∀ fuel, d < fuel → wY_isFree_2 post x (nI n) pr a L Be co fuel (nI p) := by
    intro d
    induction d with
    | zero =>
      intro p hp hq fuel hfu
      obtain ⟨m, rfl⟩ : ∃ m, fuel = m + 1 := ⟨fuel - 1, by omega⟩
      exact br_t (nI_le (by omega) (by omega)) (P1 (fun q h2 => hq q (by omega)))
    | succ d ih =>
      intro p hp hq fuel hfu
      obtain ⟨m, rfl⟩ : ∃ m, fuel = m + 1 := ⟨fuel - 1, by omega⟩
      refine br_f (nI_ge (by omega) (by omega)) (cb_br (by omega) (fun b => br_f (by decide) ⟨vp_in_nI (by omega) (by omega), ?_⟩) (fun b => br_t rfl (nm_r (nI_1 p) ?_)))
      · rw [nI_clamp (show p < 2 ^ 31 by omega)]
        refine br_c (fun e => nm_r (nI_1 p) (ih (p + 1) (by omega) (fun q h2 h3 => ?_) m (by omega))) (fun e => P0 (fun z => e (z p (by omega) b)))
        by_cases w : q = p
        · subst w; exact e
        · exact hq q (by omega) h3
      · refine ih (p + 1) (by omega) (fun q h2 h3 => ?_) m (by omega)
        by_cases w : q = p
        · subst w; exact absurd h3 b
        · exact hq q (by omega) h3
  exact ⟨n + 1, h n 0 (by omega) (fun q hq => by omega) (n + 1) (by omega)⟩
/-- the first largest clique among the sets 1 .. m; the largest free size -/
noncomputable def cb_ (L : Nat → Int32) (n : Nat) : Nat → Nat
  | 0 => 0
  | m + 1 => @ite _ (Cq L n (nI (m + 1)) ∧ pc (nI (cb_ L n m)) 8 < pc (nI (m + 1)) 8) (Classical.propDecidable _) (m + 1) (cb_ L n m)
noncomputable def fb_ (L : Nat → Int32) (n : Nat) : Nat → Nat
  | 0 => 0
  | m + 1 => @ite _ (Fq L n (nI (m + 1)) ∧ fb_ L n m < pc (nI (m + 1)) 8) (Classical.propDecidable _) (pc (nI (m + 1)) 8) (fb_ L n m)
theorem cb_t {L : Nat → Int32} {n m : Nat} (h : Cq L n (nI (m + 1)) ∧ pc (nI (cb_ L n m)) 8 < pc (nI (m + 1)) 8) : cb_ L n (m + 1) = m + 1 := if_pos h
theorem cb_f {L : Nat → Int32} {n m : Nat} (h : ¬ (Cq L n (nI (m + 1)) ∧ pc (nI (cb_ L n m)) 8 < pc (nI (m + 1)) 8)) : cb_ L n (m + 1) = cb_ L n m := if_neg h
theorem fb_t {L : Nat → Int32} {n m : Nat} (h : Fq L n (nI (m + 1)) ∧ fb_ L n m < pc (nI (m + 1)) 8) : fb_ L n (m + 1) = pc (nI (m + 1)) 8 := if_pos h
theorem fb_f {L : Nat → Int32} {n m : Nat} (h : ¬ (Fq L n (nI (m + 1)) ∧ fb_ L n m < pc (nI (m + 1)) 8)) : fb_ L n (m + 1) = fb_ L n m := if_neg h
theorem cb_le {L : Nat → Int32} {n : Nat} : ∀ m, cb_ L n m ≤ m := by
  intro m
  induction m with
  | zero => exact Nat.le_refl 0
  | succ m ih =>
    by_cases h : Cq L n (nI (m + 1)) ∧ pc (nI (cb_ L n m)) 8 < pc (nI (m + 1)) 8
    · rw [cb_t h]; exact Nat.le_refl _
    · rw [cb_f h]; omega
theorem fb_le {L : Nat → Int32} {n : Nat} : ∀ m, fb_ L n m ≤ 8 := by
  intro m
  induction m with
  | zero => exact Nat.zero_le _
  | succ m ih =>
    by_cases h : Fq L n (nI (m + 1)) ∧ fb_ L n m < pc (nI (m + 1)) 8
    · rw [fb_t h]; exact pc_le _ 8
    · rw [fb_f h]; exact ih
theorem x_cs {post : Int32 → Prop} {n : Nat} {L t sh : Nat → Int32} (hn : n ≤ 8) (P : post (nI (cb_ L n (2 ^ n - 1)))) : wpX_cliqueSet post (nI n, L, t, sh) := by
  obtain ⟨b1, b2⟩ := cb_p2 n (by omega)
  have h : ∀ d m, m + d = 2 ^ n - 1 → ∀ fuel, d < fuel → wX_cliqueSet_6 post (nI n) L t sh fuel (nI (cb_ L n m)) (nI (pc (nI (cb_ L n m)) 8)) (nI (m + 1)) := by
    intro d
    induction d with
    | zero =>
      intro m hm fuel hfu
      obtain ⟨f, rfl⟩ : ∃ f, fuel = f + 1 := ⟨fuel - 1, by omega⟩
      have e : m = 2 ^ n - 1 := by omega
      subst e
      exact br_t (by rw [cb_pow n (by omega)]; exact nI_le (by omega) (by omega)) P
    | succ d ih =>
      intro m hm fuel hfu
      obtain ⟨f, rfl⟩ : ∃ f, fuel = f + 1 := ⟨fuel - 1, by omega⟩
      have hr := ih (m + 1) (by omega) f (by omega)
      have p1 := pc_le (nI (m + 1)) 8
      have p2 := pc_le (nI (cb_ L n m)) 8
      refine br_f (by rw [cb_pow n (by omega)]; exact nI_ge (by omega) (by omega)) (x_sz (pk_le (pc (nI (m + 1)) 8) (pc (nI (cb_ L n m)) 8) (fun le => nm_r (nI_1 _) ?_) (fun lt => x_cq hn (fun c => br_f (by decide) (nm_r (nI_1 _) ?_)) (fun c => br_t rfl (nm_r (nI_1 _) ?_)))))
      · rw [cb_f (fun z => by omega)] at hr
        exact hr
      · rw [cb_t ⟨c, lt⟩] at hr
        exact hr
      · rw [cb_f (fun z => c z.1)] at hr
        exact hr
  have hh := h (2 ^ n - 1) 0 (by omega) (2 ^ n + 1) (by omega)
  rw [show pc (nI (cb_ L n 0)) 8 = 0 from pc_00] at hh
  exact ⟨2 ^ n + 1, hh⟩
theorem y_cs {post : Int32 → Prop} {n : Nat} {pr a : Int32} {L Be co : Nat → Int32} (hn : n ≤ 8) (hG : Gr n L) (P : post (nI (cb_ L n (2 ^ n - 1)))) : wpY_cliqueSet post (nI n, pr, a, L, Be, co) := by
  obtain ⟨b1, b2⟩ := cb_p2 n (by omega)
  have h : ∀ d m, m + d = 2 ^ n - 1 → ∀ fuel, d < fuel → wY_cliqueSet_4 post (nI n) pr a L Be co fuel (nI (cb_ L n m)) (nI (m + 1)) := by
    intro d
    induction d with
    | zero =>
      intro m hm fuel hfu
      obtain ⟨f, rfl⟩ : ∃ f, fuel = f + 1 := ⟨fuel - 1, by omega⟩
      have e : m = 2 ^ n - 1 := by omega
      subst e
      exact br_t (by rw [cb_pow1 n (by omega)]; exact nI_lt (by omega) (by omega)) P
    | succ d ih =>
      intro m hm fuel hfu
      obtain ⟨f, rfl⟩ : ∃ f, fuel = f + 1 := ⟨fuel - 1, by omega⟩
      have hr := ih (m + 1) (by omega) f (by omega)
      have p1 := pc_le (nI (m + 1)) 8
      have p2 := pc_le (nI (cb_ L n m)) 8
      have q0 := cb_le (L := L) (n := n) m
      have q1 := pc_n (s := m + 1) (n := n) (by omega) hn
      have q2 := pc_n (s := cb_ L n m) (n := n) (by omega) hn
      refine br_f (by rw [cb_pow1 n (by omega)]; exact nI_nlt (by omega) (by omega)) (y_cq hn hG (fun c => br_f (by decide) (y_sz hn (y_sz hn (pk_le (pc (nI (m + 1)) n) (pc (nI (cb_ L n m)) n) (fun le => nm_r (nI_1 _) ?_) (fun lt => nm_r (nI_1 _) ?_))))) (fun c => br_t rfl (nm_r (nI_1 _) ?_)))
      · rw [cb_f (fun z => by omega)] at hr
        exact hr
      · rw [cb_t ⟨c, by omega⟩] at hr
        exact hr
      · rw [cb_f (fun z => c z.1)] at hr
        exact hr
  exact ⟨2 ^ n + 1, h (2 ^ n - 1) 0 (by omega) (2 ^ n + 1) (by omega)⟩
theorem x_fr {post : Int32 → Prop} {n : Nat} {L t sh : Nat → Int32} (hn : n ≤ 8) (P : post (nI (fb_ L n (2 ^ n - 1)))) : wpX_free post (nI n, L, t, sh) := by
  obtain ⟨b1, b2⟩ := cb_p2 n (by omega)
  have h : ∀ d m, m + d = 2 ^ n - 1 → ∀ fuel, d < fuel → wX_free_4 post (nI n) L t sh fuel (nI (fb_ L n m)) (nI (m + 1)) := by
    intro d
    induction d with
    | zero =>
      intro m hm fuel hfu
      obtain ⟨f, rfl⟩ : ∃ f, fuel = f + 1 := ⟨fuel - 1, by omega⟩
      have e : m = 2 ^ n - 1 := by omega
      subst e
      exact br_t (by rw [cb_pow n (by omega)]; exact nI_le (by omega) (by omega)) P
    | succ d ih =>
      intro m hm fuel hfu
      obtain ⟨f, rfl⟩ : ∃ f, fuel = f + 1 := ⟨fuel - 1, by omega⟩
      have hr := ih (m + 1) (by omega) f (by omega)
      have p1 := pc_le (nI (m + 1)) 8
      have p2 := fb_le (L := L) (n := n) m
      refine br_f (by rw [cb_pow n (by omega)]; exact nI_ge (by omega) (by omega)) (x_sz (pk_le (pc (nI (m + 1)) 8) (fb_ L n m) (fun le => nm_r (nI_1 _) ?_) (fun lt => x_fq hn (fun c => br_f (by decide) (nm_r (nI_1 _) ?_)) (fun c => br_t rfl (nm_r (nI_1 _) ?_)))))
      · rw [fb_f (fun z => by omega)] at hr
        exact hr
      · rw [fb_t ⟨c, lt⟩] at hr
        exact hr
      · rw [fb_f (fun z => c z.1)] at hr
        exact hr
  exact ⟨2 ^ n + 1, h (2 ^ n - 1) 0 (by omega) (2 ^ n + 1) (by omega)⟩
theorem y_fr {post : Int32 → Prop} {n : Nat} {pr a : Int32} {L Be co : Nat → Int32} (hn : n ≤ 8) (P : post (nI (fb_ L n (2 ^ n - 1)))) : wpY_free post (nI n, pr, a, L, Be, co) := by
  obtain ⟨b1, b2⟩ := cb_p2 n (by omega)
  have h : ∀ d m, m + d = 2 ^ n - 1 → ∀ fuel, d < fuel → wY_free_4 post (nI n) pr a L Be co fuel (nI (fb_ L n m)) (nI (m + 1)) := by
    intro d
    induction d with
    | zero =>
      intro m hm fuel hfu
      obtain ⟨f, rfl⟩ : ∃ f, fuel = f + 1 := ⟨fuel - 1, by omega⟩
      have e : m = 2 ^ n - 1 := by omega
      subst e
      exact br_t (by rw [cb_pow1 n (by omega)]; exact nI_lt (by omega) (by omega)) P
    | succ d ih =>
      intro m hm fuel hfu
      obtain ⟨f, rfl⟩ : ∃ f, fuel = f + 1 := ⟨fuel - 1, by omega⟩
      have hr := ih (m + 1) (by omega) f (by omega)
      have p1 := pc_le (nI (m + 1)) 8
      have p2 := fb_le (L := L) (n := n) m
      have q1 := pc_n (s := m + 1) (n := n) (by omega) hn
      refine br_f (by rw [cb_pow1 n (by omega)]; exact nI_nlt (by omega) (by omega)) (y_fq hn (fun c => br_f (by decide) (y_sz hn (pk_le (pc (nI (m + 1)) n) (fb_ L n m) (fun le => nm_r (nI_1 _) ?_) (fun lt => nm_r (nI_1 _) ?_)))) (fun c => br_t rfl (pk_le 0 (fb_ L n m) (fun le => nm_r (nI_1 _) ?_) (fun lt => by omega))))
      · rw [fb_f (fun z => by omega)] at hr
        exact hr
      · rw [fb_t ⟨c, by omega⟩, q1] at hr
        exact hr
      · rw [fb_f (fun z => c z.1)] at hr
        exact hr
  exact ⟨2 ^ n + 1, h (2 ^ n - 1) 0 (by omega) (2 ^ n + 1) (by omega)⟩
theorem i_vc_cliqueSet {k : Nat} {u : SX} {v : SY} (I : i_Rel k u v) (hk : k + 4 ≤ 2049) : wpX_cliqueSet (fun r => wpY_cliqueSet (fun r' => r' = r ∧ i_Rel (k + 4) u v) v) u := by
  obtain ⟨n, L, t, sh, pr, a, Be, co, h1, h8, hG, rfl, rfl⟩ := I
  exact x_cs h8 (y_cs h8 hG ⟨rfl, rl_mk h1 h8 hG⟩)
theorem i_vc_clique {k : Nat} {u : SX} {v : SY} (I : i_Rel k u v) (hk : k + 4 ≤ 2049) : wpX_clique (fun r => wpY_clique (fun r' => r' = r ∧ i_Rel (k + 4) u v) v) u := by
  obtain ⟨n, L, t, sh, pr, a, Be, co, h1, h8, hG, rfl, rfl⟩ := I
  obtain ⟨b1, b2⟩ := cb_p2 n (by omega)
  have q0 := cb_le (L := L) (n := n) (2 ^ n - 1)
  have q1 := pc_n (s := cb_ L n (2 ^ n - 1)) (n := n) (by omega) h8
  unfold wpX_clique
  refine x_cs h8 (x_sz ?_)
  unfold wpY_clique
  refine y_cs h8 hG (y_sz h8 ⟨?_, rl_mk h1 h8 hG⟩)
  rw [q1]
theorem i_vc_free {k : Nat} {u : SX} {v : SY} (I : i_Rel k u v) (hk : k + 4 ≤ 2049) : wpX_free (fun r => wpY_free (fun r' => r' = r ∧ i_Rel (k + 4) u v) v) u := by
  obtain ⟨n, L, t, sh, pr, a, Be, co, h1, h8, hG, rfl, rfl⟩ := I
  exact x_fr h8 (y_fr h8 ⟨rfl, rl_mk h1 h8 hG⟩)
