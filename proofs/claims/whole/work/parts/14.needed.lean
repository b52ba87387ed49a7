/-! needed, together; our own -/
/-- the links without point p -/
def Tw (L : Nat → Int32) (p a b : Nat) : Prop := tT L a b ∧ a ≠ p ∧ b ≠ p
theorem x_nd {post : Int32 → SX → Prop} {n p x y : Nat} {L : Nat → Int32} (hn1 : 1 ≤ n) (hn : n ≤ 8) (hp : p < n) (hx8 : x ≤ 8) (hy : Chi (Col (Tw L p) n) y) (P0 : x ≤ y → ∀ t sh, post 0 (nI n, L, t, sh)) (P1 : y < x → ∀ t sh, post 1 (nI n, L, t, sh)) : ∀ d q, q + d = n → ∀ (t sh : Nat → Int32), (∀ a b, a < n → b < n → (tT t a b ↔ (tT L a b ∧ ¬ (a = p ∧ b < q) ∧ ¬ (b = p ∧ a < q)))) → ∀ fuel, d < fuel → wX_needed_31 post (nI p) (nI x) fuel (nI q) (nI n) L t sh := by
  have hyn := Chi_le hn1 hy
  intro d
  induction d with
  | zero =>
    intro q hq t sh ht fuel hfu
    obtain ⟨m, rfl⟩ : ∃ m, fuel = m + 1 := ⟨fuel - 1, by omega⟩
    refine br_t (nI_le (by omega) (by omega)) (x_lst hn1 hn (T := Tw L p) (fun a b ha hb => ?_) hy (fun sh' h' e m2 => pk_le x y (fun le => P0 le _ _) (fun lt => P1 lt _ _)))
    rw [ht a b ha (by omega)]
    unfold Tw
    refine and_congr Iff.rfl ?_
    omega
  | succ d ih =>
    intro q hq t sh ht fuel hfu
    obtain ⟨m, rfl⟩ : ∃ m, fuel = m + 1 := ⟨fuel - 1, by omega⟩
    refine br_f (nI_ge (by omega) (by omega)) (x_unlink (by omega) (by omega) (nm_r (nI_1 q) (ih (q + 1) (by omega) _ sh (fun a b ha hb => ?_) m (by omega))))
    have e := ht a b ha hb
    unfold tT at e ⊢
    rw [jc_b (by omega) (by omega) (by omega), e, and_assoc]
    refine and_congr Iff.rfl ?_
    omega
/-- the points but p -/
theorem cb_wo {n p q : Nat} (hn : n ≤ 8) (hp : p < n) (hq : q < n) : bt ((((1 : Int32) <<< (nI n &&& 31)) - 1) &&& (((1 : Int32) <<< (nI p &&& 31)) ^^^ (-1))) q = true ↔ q ≠ p := by
  rw [cb_clr _ _ _ (by omega) (by omega), cb_all n (by omega) q (by omega), decide_eq_true hq]
  simp
theorem nd_iff {n p k : Nat} {L be : Nat → Int32} (hn : n ≤ 8) (hp : p < n) (hk : 1 ≤ k) (hb : ∀ i, i < n → be i = L i &&& ((((1 : Int32) <<< (nI n &&& 31)) - 1) &&& (((1 : Int32) <<< (nI p &&& 31)) ^^^ (-1)))) : CY be ((((1 : Int32) <<< (nI n &&& 31)) - 1) &&& (((1 : Int32) <<< (nI p &&& 31)) ^^^ (-1))) n k ↔ Col (Tw L p) n k := by
  have e2 : ∀ a b, a < n → b < n → (bt (be a) b = true ↔ bt (L a) b = true ∧ b ≠ p) := by
    intro a b ha hb'
    rw [hb a ha, b_and, Bool.and_eq_true, cb_wo hn hp hb']
  constructor
  · rintro ⟨f, hf⟩
    refine ⟨f, fun a ha => ⟨(hf a ha).1, fun b hb' t => ?_⟩⟩
    exact (hf a ha).2.1 ((cb_wo hn hp ha).mpr t.2.1) b hb' ((e2 a b ha (by omega)).mpr ⟨t.1, t.2.2⟩) ((cb_wo hn hp (by omega)).mpr t.2.2)
  · rintro ⟨f, hf⟩
    refine ⟨fu f p 0, fun a ha => ?_⟩
    by_cases e : a = p
    · subst e
      rw [fu_s]
      refine ⟨hk, fun z => absurd rfl ((cb_wo hn hp ha).mp z), fun _ => rfl⟩
    · rw [fu_n e]
      refine ⟨(hf a ha).1, fun z b hb' t1 t2 => ?_, fun z => absurd ((cb_wo hn hp ha).mpr e) z⟩
      have ne : b ≠ p := (cb_wo hn hp (by omega)).mp t2
      rw [fu_n ne]
      exact (hf a ha).2 b hb' ⟨((e2 a b ha (by omega)).mp t1).1, e, ne⟩
theorem i_vc_needed {k : Nat} {u : SX} {v : SY} (I : i_Rel k u v) (hk : k + 4 ≤ 2049) (v1 : Int32) : wpX_needed (fun r u' => wpY_needed (fun r' v' => r' = r ∧ i_Rel (k + 4) u' v') v v1) u v1 := by
  obtain ⟨n, L, t, sh, pr, a, Be, co, h1, h8, hG, rfl, rfl⟩ := I
  obtain ⟨x, hxn, hx⟩ := Chi_n (T := tT L) h1
  unfold wpX_needed
  rcases pt_c v1 h8 with hp | ⟨p, hp, rfl⟩
  · refine x_pt0 hp (br_t rfl ?_)
    unfold wpY_needed
    exact y_pt0 hp (br_t rfl ⟨rfl, rl_mk h1 h8 hG⟩)
  · refine x_pt1 h8 hp (br_f (by decide) (pk_eq n 1 (fun e => ?_) (fun e => ?_)))
    · subst e
      have e0 : p = 0 := by omega
      subst e0
      have hx1 := hx.1
      unfold wpY_needed
      refine y_pt1 h8 hp (br_f (by decide) (y_chr h1 h8 hx (fun be co' h'' hA e2 hb2 m2 => nm_e (y_cp h8 (fun b hb => ?_)))))
      refine br_t (by decide) (pk_le x 0 (fun le => by omega) (fun lt => ⟨rfl, rl_mk h1 h8 hG⟩))
    · obtain ⟨y, hyn, hy⟩ := Chi_n (T := Tw L p) h1
      have Y : ∀ (r : Int32) (u' : SX), (∀ pr a Be co, i_Rel (k + 4) u' (nI n, pr, a, L, Be, co)) → (x ≤ y → r = 0) → (y < x → r = 1) → wpY_needed (fun r' v' => r' = r ∧ i_Rel (k + 4) u' v') (nI n, pr, a, L, Be, co) (nI p) := by
        intro r u' hR r0 r1
        unfold wpY_needed
        refine y_pt1 h8 hp (br_f (by decide) (y_chr h1 h8 hx (fun be co' h'' hA e2 hb2 m2 => nm_e (y_cp h8 (fun b hb => ?_)))))
        refine y_few h1 h8 ?_ (by omega) (Chi_cg (fun j hj => (nd_iff h8 hp hj hb).symm) hy) (fun co'' g e3 hb3 m3 => pk_le x y (fun le => ⟨(r0 le).symm, hR _ _ _ _⟩) (fun lt => ⟨(r1 lt).symm, hR _ _ _ _⟩))
        intro z
        by_cases w : p = 0
        · have := (cb_wo h8 hp (q := 1) (by omega)).mpr (by omega)
          rw [z, b_0] at this
          cases this
        · have := (cb_wo h8 hp (q := 0) (by omega)).mpr (by omega)
          rw [z, b_0] at this
          cases this
      refine x_cp h8 (fun t' ht => ?_)
      refine x_lst h1 h8 (tT_cp ht) hx (fun sh' h' e1 m => ⟨n + 1, ?_⟩)
      refine x_nd h1 h8 hp (by omega) hy (fun le t sh => ?_) (fun lt t sh => ?_) n 0 (by omega) _ _ (fun a b ha hb => ?_) (n + 1) (by omega)
      · exact Y 0 _ (fun _ _ _ _ => rl_mk h1 h8 hG) (fun _ => rfl) (fun z => by omega)
      · exact Y 1 _ (fun _ _ _ _ => rl_mk h1 h8 hG) (fun z => by omega) (fun _ => rfl)
      · unfold tT
        rw [ht a ha]
        refine ⟨fun z => ⟨z, by omega, by omega⟩, fun z => z.1⟩
/-- the links with all of u's given to v -/
def Tg (L : Nat → Int32) (u v a b : Nat) : Prop := tT L a b ∨ (a = v ∧ bt (L u) b = true) ∨ (b = v ∧ bt (L u) a = true)
theorem x_tg {post : Int32 → SX → Prop} {n u v y : Nat} {L : Nat → Int32} (hn1 : 1 ≤ n) (hn : n ≤ 8) (hu : u < n) (hv : v < n) (hy : Chi (Col (Tg L u v) n) y) (P : ∀ t sh, post (nI y) (nI n, L, t, sh)) : ∀ d q, q + d = n → ∀ (t sh : Nat → Int32), (∀ a b, a < n → b < n → (tT t a b ↔ (tT L a b ∨ (a = v ∧ b < q ∧ bt (L u) b = true) ∨ (b = v ∧ a < q ∧ bt (L u) a = true)))) → ∀ fuel, d < fuel → wX_together_33 post (nI u) (nI v) fuel (nI q) (nI n) L t sh := by
  intro d
  induction d with
  | zero =>
    intro q hq t sh ht fuel hfu
    obtain ⟨m, rfl⟩ : ∃ m, fuel = m + 1 := ⟨fuel - 1, by omega⟩
    refine br_t (nI_le (by omega) (by omega)) (x_lst hn1 hn (T := Tg L u v) (fun a b ha hb => ?_) hy (fun sh' h' e m2 => P _ _))
    rw [ht a b ha (by omega)]
    unfold Tg
    constructor
    · rintro (z | z | z)
      · exact Or.inl z
      · exact Or.inr (Or.inl ⟨z.1, z.2.2⟩)
      · exact Or.inr (Or.inr ⟨z.1, z.2.2⟩)
    · rintro (z | z | z)
      · exact Or.inl z
      · exact Or.inr (Or.inl ⟨z.1, by omega, z.2⟩)
      · exact Or.inr (Or.inr ⟨z.1, by omega, z.2⟩)
  | succ d ih =>
    intro q hq t sh ht fuel hfu
    obtain ⟨m, rfl⟩ : ∃ m, fuel = m + 1 := ⟨fuel - 1, by omega⟩
    have ecl : (nI u).toNatClampNeg = u := nI_clamp (by omega)
    refine br_f (nI_ge (by omega) (by omega)) ⟨cb_in hu hn, cb_br (by omega) (fun b1 => br_f (by decide) ?_) (fun b1 => br_t rfl ?_)⟩
    · rw [ecl] at b1
      refine x_link (by omega) (by omega) (nm_r (nI_1 q) (ih (q + 1) (by omega) _ sh (fun a b ha hb => ?_) m (by omega)))
      have e := ht a b ha hb
      unfold tT at e ⊢
      rw [js_b (by omega) (by omega) (by omega), e]
      constructor
      · rintro ((z | z | z) | ⟨rfl, rfl⟩ | ⟨rfl, rfl⟩)
        · exact Or.inl z
        · exact Or.inr (Or.inl ⟨z.1, by omega, z.2.2⟩)
        · exact Or.inr (Or.inr ⟨z.1, by omega, z.2.2⟩)
        · exact Or.inr (Or.inl ⟨rfl, by omega, b1⟩)
        · exact Or.inr (Or.inr ⟨rfl, by omega, b1⟩)
      · rintro (z | ⟨rfl, z1, z2⟩ | ⟨rfl, z1, z2⟩)
        · exact Or.inl (Or.inl z)
        · by_cases w : b = q
          · exact Or.inr (Or.inl ⟨rfl, w⟩)
          · exact Or.inl (Or.inr (Or.inl ⟨rfl, by omega, z2⟩))
        · by_cases w : a = q
          · exact Or.inr (Or.inr ⟨w, rfl⟩)
          · exact Or.inl (Or.inr (Or.inr ⟨rfl, by omega, z2⟩))
    · rw [ecl] at b1
      refine nm_r (nI_1 q) (ih (q + 1) (by omega) t sh (fun a b ha hb => ?_) m (by omega))
      rw [ht a b ha hb]
      constructor
      · rintro (z | z | z)
        · exact Or.inl z
        · exact Or.inr (Or.inl ⟨z.1, by omega, z.2.2⟩)
        · exact Or.inr (Or.inr ⟨z.1, by omega, z.2.2⟩)
      · rintro (z | ⟨rfl, z1, z2⟩ | ⟨rfl, z1, z2⟩)
        · exact Or.inl z
        · by_cases w : b = q
          · subst w; exact absurd z2 b1
          · exact Or.inr (Or.inl ⟨rfl, by omega, z2⟩)
        · by_cases w : a = q
          · subst w; exact absurd z2 b1
          · exact Or.inr (Or.inr ⟨rfl, by omega, z2⟩)
/-- a colouring of all points in which u and v have one colour -/
def Mg (L : Nat → Int32) (n u v k : Nat) : Prop := ∃ f : Nat → Nat, (∀ a, a < n → f a < k) ∧ (∀ a b, a < n → b < n → bt (L a) b = true → f a ≠ f b) ∧ f u = f v
theorem tg_mg {n u v k : Nat} {L : Nat → Int32} (hG : Gr n L) (hu : u < n) (hv : v < n) (huv : ¬ bt (L u) v = true) : Col (Tg L u v) n k ↔ Mg L n u v k := by
  constructor
  · rintro ⟨f, hf⟩
    -- both ways round
    have hs : ∀ a b, a < n → b < n → a ≠ b → (Tg L u v a b ∨ Tg L u v b a) → f a ≠ f b := by
      intro a b ha hb hab ht
      have sym : ∀ c d, c < n → d < n → Tg L u v c d → Tg L u v d c := by
        rintro c d hc hd (z | z | z)
        · exact Or.inl ((hG.2 c d hc hd).mp z)
        · exact Or.inr (Or.inr z)
        · exact Or.inr (Or.inl z)
      have h1 : Tg L u v a b := by
        rcases ht with z | z
        · exact z
        · exact sym b a hb ha z
      rcases Nat.lt_or_gt_of_ne hab with z | z
      · exact (hf b hb).2 a z (sym a b ha hb h1)
      · exact fun w => (hf a ha).2 b z h1 w.symm
    have hvb : ∀ b, b < n → bt (L u) b = true → f v ≠ f b := by
      intro b hb t
      have ne : v ≠ b := by
        intro w
        subst w
        exact huv t
      exact hs v b hv hb ne (Or.inl (Or.inr (Or.inl ⟨rfl, t⟩)))
    refine ⟨fu f u (f v), fun a ha => ?_, fun a b ha hb t => ?_, ?_⟩
    · by_cases e : a = u
      · subst e; rw [fu_s]; exact (hf v hv).1
      · rw [fu_n e]; exact (hf a ha).1
    · by_cases e : a = u
      · subst e
        have ne : b ≠ a := by
          intro w
          subst w
          exact hG.1 b hb t
        rw [fu_s, fu_n ne]
        exact hvb b hb t
      · rw [fu_n e]
        by_cases e' : b = u
        · subst e'
          rw [fu_s]
          exact fun w => hvb a ha ((hG.2 a b ha hb).mp t) w.symm
        · rw [fu_n e']
          have ne : a ≠ b := by
            intro w
            subst w
            exact hG.1 a ha t
          exact hs a b ha hb ne (Or.inl (Or.inl t))
    · rw [fu_s]
      by_cases e : v = u
      · rw [e, fu_s]
      · rw [fu_n e]
  · rintro ⟨f, f1, f2, f3⟩
    refine ⟨f, fun a ha => ⟨f1 a ha, fun b hb t w => ?_⟩⟩
    rcases t with t | ⟨rfl, t⟩ | ⟨rfl, t⟩
    · exact f2 a b ha (by omega) t w.symm
    · exact f2 u b hu (by omega) t (by rw [f3, w])
    · exact f2 u a hu ha t (by rw [f3, w])
theorem cy_mg {n u v k : Nat} {L be : Nat → Int32} (hn : n ≤ 8) (hG : Gr n L) (hu : u < n) (hv : v < n) (ne : u ≠ v) (huv : ¬ bt (L u) v = true) (hk : 1 ≤ k) (hb1 : ∀ q, q < n → (bt (be u) q = true ↔ (bt (L u) q = true ∨ bt (L v) q = true))) (hb2 : ∀ p q, p < n → q < n → p ≠ u → (bt (be p) q = true ↔ ((bt (L p) q = true ∧ q ≠ v) ∨ (q = u ∧ (bt (L u) p = true ∨ bt (L v) p = true))))) : CY be ((((1 : Int32) <<< (nI n &&& 31)) - 1) &&& (((1 : Int32) <<< (nI v &&& 31)) ^^^ (-1))) n k ↔ Mg L n u v k := by
  have hvu : ¬ bt (L v) u = true := fun z => huv ((hG.2 v u hv hu).mp z)
  constructor
  · rintro ⟨f, hf⟩
    have hs : ∀ a b, a < n → b < a → a ≠ v → b ≠ v → bt (be a) b = true → f b ≠ f a := fun a b ha hb a1 b1 t => (hf a ha).2.1 ((cb_wo hn hv ha).mpr a1) b hb t ((cb_wo hn hv (by omega)).mpr b1)
    -- points other than v
    have h1 : ∀ a b, a < n → b < n → a ≠ v → b ≠ v → bt (L a) b = true → f a ≠ f b := by
      have h0 : ∀ a b, a < n → b < a → a ≠ v → b ≠ v → bt (L a) b = true → f b ≠ f a := by
        intro a b ha hb a1 b1 t
        refine hs a b ha hb a1 b1 ?_
        by_cases e : a = u
        · subst e; exact (hb1 b (by omega)).mpr (Or.inl t)
        · exact (hb2 a b ha (by omega) e).mpr (Or.inl ⟨t, b1⟩)
      intro a b ha hb a1 b1 t
      rcases Nat.lt_trichotomy a b with z | z | z
      · exact h0 b a hb z b1 a1 ((hG.2 a b ha hb).mp t)
      · subst z; exact absurd t (hG.1 a ha)
      · exact fun w => h0 a b ha z a1 b1 t w.symm
    -- v's neighbours against u
    have h2 : ∀ b, b < n → bt (L v) b = true → f u ≠ f b := by
      intro b hb t
      have b1 : b ≠ v := fun w => hG.1 v hv (by rw [w] at t; exact t)
      have b2 : b ≠ u := fun w => hvu (by rw [w] at t; exact t)
      rcases Nat.lt_or_gt_of_ne b2 with z | z
      · exact fun w => hs u b hu z ne b1 ((hb1 b hb).mpr (Or.inr t)) w.symm
      · exact hs b u hb z b1 ne ((hb2 b u hb hu b2).mpr (Or.inr ⟨rfl, Or.inr t⟩))
    refine ⟨fu f v (f u), fun a ha => ?_, fun a b ha hb t => ?_, ?_⟩
    · by_cases e : a = v
      · subst e; rw [fu_s]; exact (hf u hu).1
      · rw [fu_n e]; exact (hf a ha).1
    · by_cases e : a = v
      · subst e
        have b1 : b ≠ a := fun w => hG.1 a ha (by rw [w] at t; exact t)
        rw [fu_s, fu_n b1]
        exact h2 b hb t
      · rw [fu_n e]
        by_cases e' : b = v
        · subst e'
          rw [fu_s]
          exact fun w => h2 a ha ((hG.2 a b ha hb).mp t) w.symm
        · rw [fu_n e']
          exact h1 a b ha hb e e' t
    · rw [fu_n ne, fu_s]
  · rintro ⟨f, f1, f2, f3⟩
    refine ⟨fu f v 0, fun a ha => ?_⟩
    by_cases e : a = v
    · subst e
      rw [fu_s]
      exact ⟨hk, fun z => absurd rfl ((cb_wo hn hv ha).mp z), fun _ => rfl⟩
    · rw [fu_n e]
      refine ⟨f1 a ha, fun z b hb' t1 t2 => ?_, fun z => absurd ((cb_wo hn hv ha).mpr e) z⟩
      have b1 : b ≠ v := (cb_wo hn hv (by omega)).mp t2
      rw [fu_n b1]
      by_cases w : a = u
      · subst w
        rcases (hb1 b (by omega)).mp t1 with s | s
        · exact fun w => f2 a b ha (by omega) s w.symm
        · exact fun w => f2 v b hv (by omega) s (by rw [← f3, w])
      · rcases (hb2 a b ha (by omega) w).mp t1 with s | ⟨rfl, s | s⟩
        · exact fun w => f2 a b ha (by omega) s.1 w.symm
        · exact fun w => f2 b a hu ha s w
        · exact fun w => f2 v a hv ha s (by rw [← f3, w])
/-- the rows of the merged graph -/
def bg (L : Nat → Int32) (u v p : Nat) : Int32 := if bt (L u ||| L v) p = true then (L p &&& (((1 : Int32) <<< (nI v &&& 31)) ^^^ (-1))) ||| ((1 : Int32) <<< (nI u &&& 31)) else L p &&& (((1 : Int32) <<< (nI v &&& 31)) ^^^ (-1))
theorem bg_b {L : Nat → Int32} {u v p q : Nat} (hu : u < 8) (hv : v < 8) (hq : q < 32) : bt (bg L u v p) q = true ↔ ((bt (L p) q = true ∧ q ≠ v) ∨ (q = u ∧ (bt (L u) p = true ∨ bt (L v) p = true))) := by
  unfold bg
  by_cases h : bt (L u ||| L v) p = true
  · rw [if_pos h, cb_set _ _ _ hu hq, cb_clr _ _ _ hv hq]
    rw [b_or, Bool.or_eq_true] at h
    simp [h]
  · rw [if_neg h, cb_clr _ _ _ hv hq]
    rw [b_or, Bool.or_eq_true] at h
    simp [h]
theorem y_tg {post : Int32 → SY → Prop} {n u v : Nat} {pr a : Int32} {L co : Nat → Int32} (hn : n ≤ 8) (hu : u < n) (hv : v < n) (P : ∀ b : Nat → Int32, (b u = (L u ||| L v)) → (∀ p, p < n → p ≠ u → b p = bg L u v p) → wY_together_142 post (nI n) pr a L b co) : ∀ d p, p + d = n → ∀ b : Nat → Int32, (∀ i, i < p → b i = bg L u v i) → ∀ fuel, d < fuel → wY_together_72 post (nI u) (nI v) (L u ||| L v) (nI n) pr a fuel (nI p) L b co := by
  intro d
  induction d with
  | zero =>
    intro p hp b hb fuel hfu
    obtain ⟨m, rfl⟩ : ∃ m, fuel = m + 1 := ⟨fuel - 1, by omega⟩
    refine br_t (nI_le (by omega) (by omega)) ⟨cb_in hu hn, nm_r (e' := upd b u (L u ||| L v)) (by rw [nI_clamp (by omega)]) (P _ pk_us (fun i hi ne => ?_))⟩
    rw [pk_un ne]
    exact hb i (by omega)
  | succ d ih =>
    intro p hp b hb fuel hfu
    obtain ⟨m, rfl⟩ : ∃ m, fuel = m + 1 := ⟨fuel - 1, by omega⟩
    have ii : vp_in (nI p) 8 := vp_in_nI (by omega) (by omega)
    refine br_f (nI_ge (by omega) (by omega)) ⟨ii, ii, nm_r (e' := upd b p (L p &&& (((1 : Int32) <<< (nI v &&& 31)) ^^^ (-1)))) (by rw [nI_clamp (by omega)]) (cb_br (by omega) (fun b1 => br_f (by decide) ⟨ii, ii, nm_r (e' := upd (upd b p (L p &&& (((1 : Int32) <<< (nI v &&& 31)) ^^^ (-1)))) p ((L p &&& (((1 : Int32) <<< (nI v &&& 31)) ^^^ (-1))) ||| ((1 : Int32) <<< (nI u &&& 31)))) (by rw [nI_clamp (by omega), pk_us]) (nm_r (nI_1 p) (ih (p + 1) (by omega) _ (fun i hi => ?_) m (by omega)))⟩) (fun b1 => br_t rfl (nm_r (nI_1 p) (ih (p + 1) (by omega) _ (fun i hi => ?_) m (by omega)))))⟩
    · by_cases e : i = p
      · subst e
        rw [pk_us, bg, if_pos b1]
      · rw [pk_un e, pk_un e]
        exact hb i (by omega)
    · by_cases e : i = p
      · subst e
        rw [pk_us, bg, if_neg b1]
      · rw [pk_un e]
        exact hb i (by omega)
theorem i_vc_together {k : Nat} {u : SX} {v : SY} (I : i_Rel k u v) (hk : k + 4 ≤ 2049) (v1 : Int32) (v2 : Int32) : wpX_together (fun r u' => wpY_together (fun r' v' => r' = r ∧ i_Rel (k + 4) u' v') v v1 v2) u v1 v2 := by
  obtain ⟨n, L, t, sh, pr, a, Be, co, h1, h8, hG, rfl, rfl⟩ := I
  unfold wpX_together
  rcases pt_c v1 h8 with hp | ⟨i, hi, rfl⟩
  · refine x_pt0 hp (br_t rfl ?_)
    unfold wpY_together
    exact y_pt0 hp (br_t rfl ⟨rfl, rl_mk h1 h8 hG⟩)
  · rcases pt_c v2 h8 with hp | ⟨j, hj, rfl⟩
    · refine x_pt1 h8 hi (br_f (by decide) (x_pt0 hp (br_t rfl ?_)))
      unfold wpY_together
      exact y_pt1 h8 hi (br_f (by decide) (y_pt0 hp (br_t rfl ⟨rfl, rl_mk h1 h8 hG⟩)))
    · have ecl : (nI i).toNatClampNeg = i := nI_clamp (by omega)
      have ecj : (nI j).toNatClampNeg = j := nI_clamp (by omega)
      refine x_pt1 h8 hi (br_f (by decide) (x_pt1 h8 hj (br_f (by decide) ⟨cb_in hi h8, cb_br (by omega) (fun b => br_f (by decide) ?_) (fun b => br_t rfl ?_)⟩)))
      · unfold wpY_together
        exact y_pt1 h8 hi (br_f (by decide) (y_pt1 h8 hj (br_f (by decide) ⟨cb_in hi h8, cb_br (by omega) (fun _ => br_f (by decide) ⟨rfl, rl_mk h1 h8 hG⟩) (fun z => absurd b z)⟩)))
      · obtain ⟨y, hyn, hy⟩ := Chi_n (T := Tg L i j) h1
        have b0 := b
        rw [ecl] at b0
        refine x_cp h8 (fun t' ht => ⟨n + 1, ?_⟩)
        refine x_tg h1 h8 hi hj hy (fun t sh => ?_) n 0 (by omega) _ _ (fun p q hp hq => ?_) (n + 1) (by omega)
        · unfold wpY_together
          refine y_pt1 h8 hi (br_f (by decide) (y_pt1 h8 hj (br_f (by decide) ⟨cb_in hi h8, cb_br (by omega) (fun z => absurd z b) (fun _ => br_t rfl ?_)⟩)))
          refine y_cpA h8 (fun be hbe => ?_)
          refine pk_eq i j (fun e => ?_) (fun e => ?_)
          · subst e
            unfold wY_together_142
            have hT : ∀ p q, p < n → q < p → (Tg L i i p q ↔ tT L p q) := by
              intro p q hp hq
              constructor
              · rintro (z | ⟨rfl, z⟩ | ⟨rfl, z⟩)
                · exact z
                · exact z
                · exact (hG.2 q p hi hp).mp z
              · exact fun z => Or.inl z
            exact y_lst h1 h8 (y_all h1 h8) (fun p f c hp => y_full h8 hbe hp) (Chi_cg (fun m _ => Col_cg hT m) hy) (fun co' h' e2 hb2 m2 => ⟨rfl, rl_mk h1 h8 hG⟩)
          · refine ⟨cb_in hi h8, cb_in hj h8, nm_r (e' := L i ||| L j) (by rw [ecl, ecj]) (nm_e ⟨n + 1, ?_⟩)⟩
            refine y_tg h8 hi hj (fun b hb1 hb2 => ?_) n 0 (by omega) be (fun i hi => by omega) (n + 1) (by omega)
            unfold wY_together_142
            have c1 : ∀ q, q < n → (bt (b i) q = true ↔ (bt (L i) q = true ∨ bt (L j) q = true)) := fun q hq => by rw [hb1, b_or, Bool.or_eq_true]
            have c2 : ∀ p q, p < n → q < n → p ≠ i → (bt (b p) q = true ↔ ((bt (L p) q = true ∧ q ≠ j) ∨ (q = i ∧ (bt (L i) p = true ∨ bt (L j) p = true)))) := fun p q hp hq ne => by rw [hb2 p hp ne, bg_b (by omega) (by omega) (by omega)]
            refine y_few h1 h8 ?_ (by omega) (Chi_cg (fun m hm => (tg_mg hG hi hj b0).trans (cy_mg h8 hG hi hj e b0 hm c1 c2).symm) hy) (fun co' h' e2 hb3 m2 => ⟨rfl, rl_mk h1 h8 hG⟩)
            intro z
            have := (cb_wo h8 hj hi).mpr e
            rw [z, b_0] at this
            cases this
        · unfold tT
          rw [ht p hp]
          refine ⟨fun z => Or.inl z, ?_⟩
          rintro (z | z | z)
          · exact z
          · omega
          · omega
