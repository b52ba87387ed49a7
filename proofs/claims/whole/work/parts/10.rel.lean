/-! the relation; points, join, turn; our own -/
/-- no point is joined to itself, and links go both ways -/
def Gr (n : Nat) (L : Nat → Int32) : Prop := (∀ p, p < n → ¬ bt (L p) p = true) ∧ (∀ p q, p < n → q < n → (bt (L p) q = true ↔ bt (L q) p = true))
/-- the same points, the same links -/
def i_Rel (_ : Nat) (u : SX) (v : SY) : Prop := ∃ (n : Nat) (L t sh : Nat → Int32) (pr a : Int32) (Be co : Nat → Int32), 1 ≤ n ∧ n ≤ 8 ∧ Gr n L ∧ u = (nI n, L, t, sh) ∧ v = (nI n, pr, a, L, Be, co)
theorem i_up {k : Nat} {u : SX} {v : SY} (h : i_Rel k u v) : i_Rel (k + 4) u v := h
theorem rl_mk {k n : Nat} {L t sh : Nat → Int32} {pr a : Int32} {Be co : Nat → Int32} (h1 : 1 ≤ n) (h8 : n ≤ 8) (hG : Gr n L) : i_Rel k (nI n, L, t, sh) (nI n, pr, a, L, Be, co) := ⟨n, L, t, sh, pr, a, Be, co, h1, h8, hG, rfl, rfl⟩
theorem i_vc0 (k0 : Int32) : wpX_init (fun u => wpY_init (fun v => i_Rel 1 u v) k0) k0 := by
  have g : ∀ n, Gr n (fun _ => 0) := fun n => ⟨fun p _ z => (by rw [b_0] at z; cases z), fun p q _ _ => (by rw [b_0, b_0])⟩
  by_cases h1 : 1 ≤ k0
  · by_cases h8 : k0 ≤ 8
    · have hn : ¬ k0 < 0 := by
        intro z
        have := Int32.lt_of_lt_of_le z (Int32.le_trans (by decide : (0 : Int32) ≤ 1) h1)
        exact absurd this (Int32.lt_irrefl)
      obtain ⟨j, hj, rfl⟩ := nI_of2 (n := 8) (M := 8) (by decide) hn h8
      have hj1 : 1 ≤ j := by
        have : nI 1 ≤ nI j := h1
        rw [nI_leI (by omega) (by omega)] at this
        exact this
      exact br_t h1 (br_t h8 (br_t h1 (br_t h8 (rl_mk hj1 hj (g j)))))
    · exact br_t h1 (br_f h8 (br_t h1 (br_f h8 (rl_mk (n := 8) (by omega) (by omega) (g 8)))))
  · exact br_f h1 (br_f h1 (rl_mk (n := 1) (by omega) (by omega) (g 1)))
/-- x names no point -/
def nP (n : Nat) (x : Int32) : Prop := x < 0 ∨ nI n ≤ x
theorem pt_c {n : Nat} (x : Int32) (hn : n ≤ 8) : nP n x ∨ ∃ j, j < n ∧ x = nI j := by
  rcases pk_ix x (n := n) (by omega) with h | h | h
  · exact Or.inl (Or.inl h)
  · exact Or.inl (Or.inr h)
  · exact Or.inr h
theorem x_pt0 {post : Int32 → Prop} {n : Nat} {L t sh : Nat → Int32} {x : Int32} (h : nP n x) (P : post 0) : wpX_isPoint post (nI n, L, t, sh) x := by
  by_cases z : x < 0
  · exact br_t z P
  · rcases h with h | h
    · exact absurd h z
    · exact br_f z (br_t h P)
theorem x_pt1 {post : Int32 → Prop} {n j : Nat} {L t sh : Nat → Int32} (hn : n ≤ 8) (h : j < n) (P : post 1) : wpX_isPoint post (nI n, L, t, sh) (nI j) :=
  br_f (nI_pos (by omega)) (br_f (nI_ge h (by omega)) P)
theorem y_pt0 {post : Int32 → Prop} {n : Nat} {pr a : Int32} {N Be co : Nat → Int32} {x : Int32} (h : nP n x) (P : post 0) : wpY_isPoint post (nI n, pr, a, N, Be, co) x := by
  by_cases z : x < 0
  · exact br_t z P
  · rcases h with h | h
    · exact absurd h z
    · exact br_f z (br_t h P)
theorem y_pt1 {post : Int32 → Prop} {n j : Nat} {pr a : Int32} {N Be co : Nat → Int32} (hn : n ≤ 8) (h : j < n) (P : post 1) : wpY_isPoint post (nI n, pr, a, N, Be, co) (nI j) :=
  br_f (nI_pos (by omega)) (br_f (nI_ge h (by omega)) P)
theorem x_pr0 {post : Int32 → Prop} {n : Nat} {L t sh : Nat → Int32} {x y : Int32} (hn : n ≤ 8) (h : nP n x ∨ nP n y) (P : post 0) : wpX_isPair post (nI n, L, t, sh) x y := by
  unfold wpX_isPair
  rcases pt_c x hn with hx | ⟨i, hi, rfl⟩
  · exact x_pt0 hx (br_t rfl P)
  · rcases h with h | h
    · exact x_pt0 h (br_t rfl P)
    · exact x_pt1 hn hi (br_f (by decide) (x_pt0 h (br_t rfl P)))
theorem x_pr1 {post : Int32 → Prop} {n i j : Nat} {L t sh : Nat → Int32} (hn : n ≤ 8) (hi : i < n) (hj : j < n) (P0 : i = j → post 0) (P1 : i ≠ j → post 1) : wpX_isPair post (nI n, L, t, sh) (nI i) (nI j) := by
  unfold wpX_isPair
  exact x_pt1 hn hi (br_f (by decide) (x_pt1 hn hj (br_f (by decide) (pk_eq i j P0 P1))))
/-- the link of i and j taken away; put in -/
def jc (L : Nat → Int32) (i j : Nat) : Nat → Int32 := upd (upd L i (L i &&& (((1 : Int32) <<< (nI j &&& 31)) ^^^ (-1)))) j ((upd L i (L i &&& (((1 : Int32) <<< (nI j &&& 31)) ^^^ (-1)))) j &&& (((1 : Int32) <<< (nI i &&& 31)) ^^^ (-1)))
def js (L : Nat → Int32) (i j : Nat) : Nat → Int32 := upd (upd L i (L i ||| ((1 : Int32) <<< (nI j &&& 31)))) j ((upd L i (L i ||| ((1 : Int32) <<< (nI j &&& 31)))) j ||| ((1 : Int32) <<< (nI i &&& 31)))
theorem jc_b {L : Nat → Int32} {i j p q : Nat} (hi : i < 8) (hj : j < 8) (hq : q < 32) : bt (jc L i j p) q = true ↔ bt (L p) q = true ∧ ¬ ((p = i ∧ q = j) ∨ (p = j ∧ q = i)) := by
  unfold jc
  by_cases e : p = j
  · subst e
    rw [pk_us, cb_clr _ _ _ hi hq]
    by_cases e2 : p = i
    · subst e2
      rw [pk_us, cb_clr _ _ _ hj hq]
      by_cases e3 : q = p <;> simp [e3]
    · rw [pk_un e2]
      by_cases e3 : q = i <;> simp [e3, e2]
  · rw [pk_un e]
    by_cases e2 : p = i
    · subst e2
      rw [pk_us, cb_clr _ _ _ hj hq]
      by_cases e3 : q = j <;> simp [e3, e]
    · rw [pk_un e2]
      simp [e, e2]
theorem js_b {L : Nat → Int32} {i j p q : Nat} (hi : i < 8) (hj : j < 8) (hq : q < 32) : bt (js L i j p) q = true ↔ bt (L p) q = true ∨ ((p = i ∧ q = j) ∨ (p = j ∧ q = i)) := by
  unfold js
  by_cases e : p = j
  · subst e
    rw [pk_us, cb_set _ _ _ hi hq]
    by_cases e2 : p = i
    · subst e2
      rw [pk_us, cb_set _ _ _ hj hq]
      by_cases e3 : q = p <;> simp [e3]
    · rw [pk_un e2]
      by_cases e3 : q = i <;> simp [e3, e2]
  · rw [pk_un e]
    by_cases e2 : p = i
    · subst e2
      rw [pk_us, cb_set _ _ _ hj hq]
      by_cases e3 : q = j <;> simp [e3, e]
    · rw [pk_un e2]
      simp [e, e2]
theorem Gr_jc {n i j : Nat} {L : Nat → Int32} (hn : n ≤ 8) (hi : i < n) (hj : j < n) (h : Gr n L) : Gr n (jc L i j) := by
  refine ⟨fun p hp z => ?_, fun p q hp hq => ?_⟩
  · rw [jc_b (by omega) (by omega) (by omega)] at z
    exact h.1 p hp z.1
  · rw [jc_b (by omega) (by omega) (by omega), jc_b (by omega) (by omega) (by omega), h.2 p q hp hq]
    refine and_congr Iff.rfl (not_congr ?_)
    omega
theorem Gr_js {n i j : Nat} {L : Nat → Int32} (hn : n ≤ 8) (hi : i < n) (hj : j < n) (hij : i ≠ j) (h : Gr n L) : Gr n (js L i j) := by
  refine ⟨fun p hp z => ?_, fun p q hp hq => ?_⟩
  · rw [js_b (by omega) (by omega) (by omega)] at z
    rcases z with z | z
    · exact h.1 p hp z
    · omega
  · rw [js_b (by omega) (by omega) (by omega), js_b (by omega) (by omega) (by omega), h.2 p q hp hq]
    refine or_congr Iff.rfl ?_
    omega
/-- the reference's put -/
theorem y_put0 {post : SY → Prop} {n i j : Nat} {pr a : Int32} {L Be co : Nat → Int32} (hn : n ≤ 8) (hi : i < n) (hj : j < n) (P : post (nI n, pr, a, jc L i j, Be, co)) : wpY_put post (nI n, pr, a, L, Be, co) (nI i) (nI j) 0 := by
  have ii := cb_in hi hn
  have ij := cb_in hj hn
  refine br_t rfl ⟨ii, ii, nm_r (e' := upd L i (L i &&& (((1 : Int32) <<< (nI j &&& 31)) ^^^ (-1)))) (by rw [nI_clamp (by omega)]) (br_t rfl ⟨ij, ij, nm_r (e' := jc L i j) (by rw [nI_clamp (by omega)]; rfl) P⟩)⟩
theorem y_put1 {post : SY → Prop} {n i j : Nat} {pr a x : Int32} {L Be co : Nat → Int32} (hx : ¬ x = 0) (hn : n ≤ 8) (hi : i < n) (hj : j < n) (P : post (nI n, pr, a, js L i j, Be, co)) : wpY_put post (nI n, pr, a, L, Be, co) (nI i) (nI j) x := by
  have ii := cb_in hi hn
  have ij := cb_in hj hn
  refine br_f hx ⟨ii, ii, nm_r (e' := upd L i (L i ||| ((1 : Int32) <<< (nI j &&& 31)))) (by rw [nI_clamp (by omega)]) (br_f hx ⟨ij, ij, nm_r (e' := js L i j) (by rw [nI_clamp (by omega)]; rfl) P⟩)⟩
theorem i_vc_join {k : Nat} {u : SX} {v : SY} (I : i_Rel k u v) (hk : k + 4 ≤ 2049) (v1 : Int32) (v2 : Int32) (v3 : Int32) : wpX_join (fun r u' => wpY_join (fun r' v' => r' = r ∧ i_Rel (k + 4) u' v') v v1 v2 (lw_bz v3)) u v1 v2 (lw_bz v3) := by
  obtain ⟨n, L, t, sh, pr, a, Be, co, h1, h8, hG, rfl, rfl⟩ := I
  have R0 : i_Rel (k + 4) (nI n, L, t, sh) (nI n, pr, a, L, Be, co) := rl_mk h1 h8 hG
  unfold wpX_join
  rcases pt_c v1 h8 with hx | ⟨i, hi, rfl⟩
  · refine x_pr0 h8 (Or.inl hx) (br_t rfl ?_)
    unfold wpY_join
    exact y_pt0 hx (br_t rfl ⟨rfl, R0⟩)
  · rcases pt_c v2 h8 with hx | ⟨j, hj, rfl⟩
    · refine x_pr0 h8 (Or.inr hx) (br_t rfl ?_)
      unfold wpY_join
      exact y_pt1 h8 hi (br_f (by decide) (y_pt0 hx (br_t rfl ⟨rfl, R0⟩)))
    · refine x_pr1 h8 hi hj (fun e => br_t rfl ?_) (fun e => br_f (by decide) ?_)
      · unfold wpY_join
        exact y_pt1 h8 hi (br_f (by decide) (y_pt1 h8 hj (br_f (by decide) (br_t (by rw [e]) ⟨rfl, R0⟩))))
      · have ii := cb_in hi h8
        have ij := cb_in hj h8
        have ne : ¬ nI i = nI j := by rw [nI_eq (by omega) (by omega)]; exact e
        by_cases z : lw_bz v3 = 0
        · rw [z]
          refine br_t rfl ⟨ii, ii, nm_r (e' := upd L i (L i &&& (((1 : Int32) <<< (nI j &&& 31)) ^^^ (-1)))) (by rw [nI_clamp (by omega)]) ⟨ij, ij, nm_r (e' := jc L i j) (by rw [nI_clamp (by omega)]; rfl) ?_⟩⟩
          unfold wpY_join
          exact y_pt1 h8 hi (br_f (by decide) (y_pt1 h8 hj (br_f (by decide) (br_f ne (y_put0 h8 hi hj ⟨rfl, rl_mk h1 h8 (Gr_jc h8 hi hj hG)⟩)))))
        · refine br_f z ⟨ii, ii, nm_r (e' := upd L i (L i ||| ((1 : Int32) <<< (nI j &&& 31)))) (by rw [nI_clamp (by omega)]) ⟨ij, ij, nm_r (e' := js L i j) (by rw [nI_clamp (by omega)]; rfl) ?_⟩⟩
          unfold wpY_join
          exact y_pt1 h8 hi (br_f (by decide) (y_pt1 h8 hj (br_f (by decide) (br_f ne (y_put1 z h8 hi hj ⟨rfl, rl_mk h1 h8 (Gr_js h8 hi hj e hG)⟩)))))
/-- turn, row by row -/
def tnv (n p : Nat) (x : Int32) : Int32 := ((((1 : Int32) <<< (nI n &&& 31)) - 1) &&& (x ^^^ (-1))) &&& (((1 : Int32) <<< (nI p &&& 31)) ^^^ (-1))
def tn (n : Nat) (L : Nat → Int32) : Nat → (Nat → Int32)
  | 0 => L
  | p + 1 => upd (tn n L p) p (tnv n p (tn n L p p))
theorem tn_v {n : Nat} {L : Nat → Int32} : ∀ p i, tn n L p i = if i < p then tnv n i (L i) else L i := by
  intro p
  induction p with
  | zero => intro i; rw [if_neg (by omega)]; rfl
  | succ p ih =>
    intro i
    show upd (tn n L p) p (tnv n p (tn n L p p)) i = _
    by_cases e : i = p
    · subst e
      rw [pk_us, ih i, if_neg (by omega), if_pos (by omega)]
    · rw [pk_un e, ih i]
      by_cases z : i < p
      · rw [if_pos z, if_pos (by omega)]
      · rw [if_neg z, if_neg (by omega)]
theorem Gr_tn {n : Nat} {L : Nat → Int32} (hn : n ≤ 8) (h : Gr n L) : Gr n (tn n L n) := by
  have hb : ∀ p q, p < n → q < n → (bt (tn n L n p) q = true ↔ (¬ bt (L p) q = true ∧ ¬ q = p)) := by
    intro p q hp hq
    rw [tn_v, if_pos hp, tnv, cb_clr _ _ _ (by omega) (by omega), b_and, cb_all n (by omega) q (by omega), cb_not _ _ (by omega)]
    simp [hq]
  refine ⟨fun p hp z => ?_, fun p q hp hq => ?_⟩
  · exact ((hb p p hp hp).mp z).2 rfl
  · rw [hb p q hp hq, hb q p hq hp, h.2 p q hp hq]
    refine and_congr Iff.rfl ?_
    omega
theorem x_tn {post : SX → Prop} {n : Nat} {L t sh : Nat → Int32} (hn : n ≤ 8) (P : post (nI n, tn n L n, t, sh)) : ∀ d p, p + d = n → ∀ fuel, d < fuel → wX_turn_11 post (((1 : Int32) <<< (nI n &&& 31)) - 1) (nI n) fuel (nI p) (tn n L p) t sh := by
  intro d
  induction d with
  | zero =>
    intro p hp fuel hfu
    obtain ⟨m, rfl⟩ : ∃ m, fuel = m + 1 := ⟨fuel - 1, by omega⟩
    have e : p = n := by omega
    subst e
    exact br_t (nI_le (Nat.le_refl _) (by omega)) P
  | succ d ih =>
    intro p hp fuel hfu
    obtain ⟨m, rfl⟩ : ∃ m, fuel = m + 1 := ⟨fuel - 1, by omega⟩
    have ii : vp_in (nI p) 8 := vp_in_nI (by omega) (by omega)
    exact br_f (nI_ge (by omega) (by omega)) ⟨ii, ii, nm_r (e' := tn n L (p + 1)) (by rw [nI_clamp (by omega)]; rfl) (nm_r (nI_1 p) (ih (p + 1) (by omega) m (by omega)))⟩
theorem y_tn {post : SY → Prop} {n : Nat} {pr a : Int32} {L Be co : Nat → Int32} (hn : n ≤ 8) (P : post (nI n, pr, a, tn n L n, Be, co)) : ∀ d p, p + d = n → ∀ fuel, d < fuel → wY_turn_2 post (nI n) pr a fuel (nI p) (tn n L p) Be co := by
  intro d
  induction d with
  | zero =>
    intro p hp fuel hfu
    obtain ⟨m, rfl⟩ : ∃ m, fuel = m + 1 := ⟨fuel - 1, by omega⟩
    have e : p = n := by omega
    subst e
    exact br_t (nI_le (Nat.le_refl _) (by omega)) P
  | succ d ih =>
    intro p hp fuel hfu
    obtain ⟨m, rfl⟩ : ∃ m, fuel = m + 1 := ⟨fuel - 1, by omega⟩
    have ii : vp_in (nI p) 8 := vp_in_nI (by omega) (by omega)
    exact br_f (nI_ge (by omega) (by omega)) ⟨ii, ii, nm_r (e' := tn n L (p + 1)) (by rw [nI_clamp (by omega)]; rfl) (nm_r (nI_1 p) (ih (p + 1) (by omega) m (by omega)))⟩
theorem i_vc_turn {k : Nat} {u : SX} {v : SY} (I : i_Rel k u v) (hk : k + 4 ≤ 2049) : wpX_turn (fun u' => wpY_turn (fun v' => i_Rel (k + 4) u' v') v) u := by
  obtain ⟨n, L, t, sh, pr, a, Be, co, h1, h8, hG, rfl, rfl⟩ := I
  have R1 : i_Rel (k + 4) (nI n, tn n L n, t, sh) (nI n, pr, a, tn n L n, Be, co) := rl_mk h1 h8 (Gr_tn h8 hG)
  exact nm_e ⟨n + 1, x_tn (L := L) h8 ⟨n + 1, y_tn (L := L) h8 R1 n 0 (by omega) (n + 1) (by omega)⟩ n 0 (by omega) (n + 1) (by omega)⟩
