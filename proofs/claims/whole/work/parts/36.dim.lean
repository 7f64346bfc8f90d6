/-! dimension, neighbours, edges -/
section
variable {fc ff : Int32} {pl co tt st : Nat → Int32} {Q f : Nat → gm_V} {n c : Nat} {M : Nat → Nat} {D : Nat → Int}
variable {fn fp fk : Int32} {nr nb gu gv gw gd gx gy gz gb gt gf : Nat → Int32}
/-- what is known of the list of the corners -/
def dm_L (Q : Nat → gm_V) (n c : Nat) (f : Nat → gm_V) : Prop := ls_L (gm_Vt Q (fun p => p < n)) c f ∧ gm_Bd Q (fun p => p < n) ∧ ∀ i, i < n → rk_nz (Q i)
theorem dm_npr (h : dm_L Q n c f) {a b : Nat} (ha : a < c) (hb : b < c) (hab : a ≠ b) : ¬ gm_pr (f a) (f b) := by
  rcases Nat.lt_or_gt_of_ne hab with k | k
  · exact gm_lt_npr (h.1.2.1 a b k hb)
  · exact fun z => gm_lt_npr (h.1.2.1 b a k ha) (gm_pr_symm z)
theorem dm_vx (h : dm_L Q n c f) {t : gm_V} (ht : gm_Vx Q (fun p => p < n) t) : ∃ k, k < c ∧ gm_pr t (f k) ∧ ∀ a, gm_ev a t = 0 → gm_ev a (f k) = 0 := by
  obtain ⟨hw, hin, i, j, k, hi, hj, hk, hd, ei, ej, ek⟩ := ht
  have hw0 : t.2.2.2 ≠ 0 := by omega
  have hv : gm_Vt Q (fun p => p < n) (gm_red t) := by
    refine ⟨⟨gm_red_w hw0, fun s hs => ?_, i, j, k, hi, hj, hk, hd, gm_red_0 hw0 ei, gm_red_0 hw0 ej, gm_red_0 hw0 ek⟩, gm_red_g hw0⟩
    have e := gm_red_ev (Q s) t
    rw [yw_q hw] at e
    have hg := gm_g4_pos hw0
    have := hin s hs
    rcases Int.lt_or_le 0 (gm_ev (Q s) (gm_red t)) with z | z
    · have := gm_pp (a := (gm_g4 t : Int)) (by omega) z
      omega
    · exact z
  obtain ⟨m, hm, e⟩ := h.1.2.2 _ hv
  refine ⟨m, hm, ?_, fun a ha => by rw [e]; exact gm_red_0 hw0 ha⟩
  rw [e]
  exact gm_uniq hd ei ej ek (gm_red_0 hw0 ei) (gm_red_0 hw0 ej) (gm_red_0 hw0 ek)
theorem dm_pr_trans {p q r : gm_V} (hq : 0 < q.2.2.2) (h1 : gm_pr p q) (h2 : gm_pr q r) : gm_pr p r := by
  obtain ⟨a1, a2, a3⟩ := h1
  obtain ⟨b1, b2, b3⟩ := h2
  exact ⟨gm_frac_eq hq a1 b1, gm_frac_eq hq a2 b2, gm_frac_eq hq a3 b3⟩
/-- neighbours: no third corner in all planes of both -/
def nb_N (Q : Nat → gm_V) (n c : Nat) (f : Nat → gm_V) (k l : Nat) : Prop :=
  ∀ m, m < c → m ≠ k → m ≠ l → ¬ ∀ i, i < n → gm_ev (Q i) (f k) = 0 ∧ gm_ev (Q i) (f l) = 0 → gm_ev (Q i) (f m) = 0
theorem nb_symm {k l : Nat} : nb_N Q n c f k l ↔ nb_N Q n c f l k :=
  ⟨fun h m hm h1 h2 g => h m hm h2 h1 (fun i hi z => g i hi ⟨z.2, z.1⟩), fun h m hm h1 h2 g => h m hm h2 h1 (fun i hi z => g i hi ⟨z.2, z.1⟩)⟩
theorem nb_rank (h : dm_L Q n c f) {k l r : Nat} (hk : k < c) (hl : l < c) (hkl : k ≠ l) (hr : rk_is Q (fun i => i < n ∧ (gm_ev (Q i) (f k) = 0 ∧ gm_ev (Q i) (f l) = 0)) r) : r = 2 ↔ nb_N Q n c f k l := by
  have hkv := (h.1.1 k hk).1
  have hlv := (h.1.1 l hl).1
  rw [rk_c2 (ac := fun p => p < n) (n := n) (fun i hi => hi) h.2.1 h.2.2 hkv hlv (dm_npr h hk hl hkl) hr]
  constructor
  · intro g m hm m1 m2 hx
    exact g ⟨f m, (h.1.1 m hm).1, dm_npr h hm hk m1, dm_npr h hm hl m2, fun i hi a b => hx i hi ⟨a, b⟩⟩
  · intro g hx
    obtain ⟨t, ht, t1, t2, t3⟩ := hx
    obtain ⟨m, hm, hp, he⟩ := dm_vx h ht
    refine g m hm (fun e => t1 (by rw [← e]; exact hp)) (fun e => t2 (by rw [← e]; exact hp)) (fun i hi z => he _ (t3 i hi z.1 z.2))
theorem yw_nb {post : Int32 → Prop} (h : dm_L Q n c f) (hc : c ≤ 32) (hn : n ≤ 16) (hok : ∀ i, i < n → gm_ok (Q i)) (hQ : yw_A gu gv gw gd n Q) (hT : xw_T gt c n Q f) {k l : Nat} (hk : k < c) (hl : l < c)
    (h1 : k ≠ l → nb_N Q n c f k l → post 1) (h0 : (k = l ∨ ¬ nb_N Q n c f k l) → post 0) : wpY_areNeighbours post (fn, nI n, nI c, nr, nb, gu, gv, gw, gd, gx, gy, gz, gb, gt, gf) (nI k) (nI l) := by
  obtain ⟨mk, ek, sk⟩ := hT k hk
  obtain ⟨ml, el, sl⟩ := hT l hl
  by_cases e : k = l
  · exact br_t (by rw [e]) (h0 (.inl e))
  · refine br_f (fun z => e ((nI_eq (by omega) (by omega)).mp z)) ⟨vp_in_nI (by omega) (by omega), vp_in_nI (by omega) (by omega), ?_⟩
    rw [nI_clamp (by omega), nI_clamp (by omega), ek, el, nx_and]
    refine yw_rank hQ hn hok (nu_ms_and sk sl) (fun r hr => ?_)
    have hb := nb_rank h hk hl e hr
    have r3 := rk_le3 hr
    by_cases g : r = 2
    · exact br_t (by rw [g]; rfl) (h1 e (hb.mp g))
    · exact br_f (fun z => g ((nI_eq (b := 2) (by omega) (by omega)).mp z)) (h0 (.inr (fun z => g (hb.mpr z))))
theorem xw_nb17 {post : Int32 → Prop} {k l s : Nat} (hc : c ≤ 32) (hn : n ≤ 16) (hT : xw_T tt c n Q f) (hk : k < c) (hl : l < c) (hs : nu_ms s n (fun i => gm_ev (Q i) (f k) = 0 ∧ gm_ev (Q i) (f l) = 0))
    (h1 : nb_N Q n c f k l → post 1) (h0 : ¬ nb_N Q n c f k l → post 0) :
    ∀ d m : Nat, m + d = c → (∀ j, j < m → j ≠ k → j ≠ l → ¬ ∀ i, i < n → gm_ev (Q i) (f k) = 0 ∧ gm_ev (Q i) (f l) = 0 → gm_ev (Q i) (f j) = 0) →
      wX_areNeighbours_17 post (nI k) (nI l) (nI s) fc (nI c) pl co tt st (d + 1) (nI m) := by
  intro d
  induction d with
  | zero =>
    intro m hm hI
    have : m = c := by omega
    subst this
    exact br_t (nI_le (Nat.le_refl _) (by omega)) (h1 hI)
  | succ d ih =>
    intro m hm hI
    have nx : (m ≠ k → m ≠ l → ¬ ∀ i, i < n → gm_ev (Q i) (f k) = 0 ∧ gm_ev (Q i) (f l) = 0 → gm_ev (Q i) (f m) = 0) → ∀ z, z = nI m + 1 → wX_areNeighbours_17 post (nI k) (nI l) (nI s) fc (nI c) pl co tt st (d + 1) z := by
      intro g
      refine nm_r (nI_1 m) (ih (m + 1) (by omega) (fun j hj => ?_))
      by_cases e : j = m
      · subst e; exact g
      · exact hI j (by omega)
    refine br_f (nI_ge (by omega) (by omega)) (br_c (fun e => nx (fun a => ?_)) (fun e1 => br_c (fun e => nx (fun _ b => ?_)) (fun e2 => ?_)))
    · exact absurd ((nI_eq (by omega) (by omega)).mp e) a
    · exact absurd ((nI_eq (by omega) (by omega)).mp e) b
    · obtain ⟨mm, em, sm⟩ := hT m (by omega)
      have hsub := nu_ms_sub sm hs
      have l1 := nu_ms_lt hs
      have l2 := nu_ms_lt sm
      have h16 : 2 ^ n ≤ 2 ^ 16 := Nat.pow_le_pow_right (by decide) hn
      have l3 : mm &&& s ≤ s := Nat.and_le_right
      refine ⟨vp_in_nI (by omega) (by omega), ?_⟩
      rw [nI_clamp (by omega), em, nx_and]
      refine br_c (fun g => h0 (fun hN => ?_)) (fun g => nx (fun _ _ z => ?_))
      · have g' := hsub.mp ((nI_eq (by omega) (by omega)).mp g)
        exact hN m (by omega) (fun z => e1 (by rw [z])) (fun z => e2 (by rw [z])) g'
      · exact g (by rw [hsub.mpr z])
theorem xw_nb {post : Int32 → Prop} {k l : Nat} (hc : c ≤ 32) (hn : n ≤ 16) (hT : xw_T tt c n Q f) (hk : k < c) (hl : l < c) (h1 : nb_N Q n c f k l → post 1) (h0 : ¬ nb_N Q n c f k l → post 0) :
    wpX_areNeighbours post (fc, nI c, pl, co, tt, st) (nI k) (nI l) := by
  obtain ⟨mk, ek, sk⟩ := hT k hk
  obtain ⟨ml, el, sl⟩ := hT l hl
  refine ⟨vp_in_nI (by omega) (by omega), vp_in_nI (by omega) (by omega), ?_⟩
  rw [nI_clamp (by omega), nI_clamp (by omega), ek, el]
  exact nm_r (nx_and _ _) ⟨c + 1, xw_nb17 hc hn hT hk hl (nu_ms_and sk sl) h1 h0 c 0 (by omega) (fun j hj => by omega)⟩
/-- the dimension, as the component answers it -/
def dm_D (Q : Nat → gm_V) (n c : Nat) (f : Nat → gm_V) (d : Int32) : Prop :=
  (c < 3 ∧ d = nI c - 1) ∨ (3 ≤ c ∧ (∃ i, i < n ∧ ∀ k, k < c → gm_ev (Q i) (f k) = 0) ∧ d = 2) ∨ (3 ≤ c ∧ (¬ ∃ i, i < n ∧ ∀ k, k < c → gm_ev (Q i) (f k) = 0) ∧ d = 3)
theorem xw_dim24 {post : Int32 → Prop} (hc : c ≤ 32) (h3 : 3 ≤ c) (hn : n ≤ 16) (hT : xw_T tt c n Q f) (h : ∀ d, dm_D Q n c f d → post d) :
    ∀ d k s : Nat, k + d = c → nu_ms s n (fun i => ∀ j, j < k → gm_ev (Q i) (f j) = 0) → wX_dimensionOfCorners_24 post fc (nI c) pl co tt st (d + 1) (nI s) (nI k) := by
  have h16 : 2 ^ n ≤ 2 ^ 16 := Nat.pow_le_pow_right (by decide) hn
  intro d
  induction d with
  | zero =>
    intro k s hk hs
    have : k = c := by omega
    subst this
    have l1 := nu_ms_lt hs
    have hz := nu_ms_z hs
    refine br_t (nI_le (Nat.le_refl _) (by omega)) (br_c (fun e => ?_) (fun e => ?_))
    · have e' : s = 0 := (nI_eq (b := 0) (by omega) (by omega)).mp e
      exact h 3 (.inr (.inr ⟨h3, fun hx => by obtain ⟨i, hi, g⟩ := hx; exact hz.mp e' i hi g, rfl⟩))
    · have e' : ¬ s = 0 := fun z => e (by rw [z]; rfl)
      refine h 2 (.inr (.inl ⟨h3, ?_, rfl⟩))
      apply Classical.byContradiction
      intro hx
      exact e' (hz.mpr (fun i hi g => hx ⟨i, hi, g⟩))
  | succ d ih =>
    intro k s hk hs
    obtain ⟨m, hm, hms⟩ := hT k (by omega)
    refine br_f (nI_ge (by omega) (by omega)) ⟨vp_in_nI (by omega) (by omega), ?_⟩
    rw [nI_clamp (by omega), hm]
    refine nm_r (nx_and _ _) (nm_r (nI_1 k) (ih (k + 1) _ (by omega) (nu_ms_cg (fun i hi => ?_) (nu_ms_and hs hms))))
    constructor
    · intro a j hj
      by_cases e : j = k
      · subst e; exact a.2
      · exact a.1 j (by omega)
    · intro a
      exact ⟨fun j hj => a j (by omega), a k (by omega)⟩
theorem xw_dim {post : Int32 → Prop} (hc : c ≤ 32) (hn : n ≤ 16) (hT : xw_T tt c n Q f) (h : ∀ d, dm_D Q n c f d → post d) : wpX_dimensionOfCorners post (fc, nI c, pl, co, tt, st) := by
  by_cases h3 : 3 ≤ c
  · obtain ⟨m, hm, hms⟩ := hT 0 (by omega)
    refine br_t (nI_le (a := 3) h3 (by omega)) (nm_r hm ⟨c - 1 + 1, xw_dim24 hc h3 hn hT h (c - 1) 1 m (by omega) (nu_ms_cg (fun i hi => ?_) hms)⟩)
    constructor
    · intro a j hj
      have : j = 0 := by omega
      subst this; exact a
    · intro a; exact a 0 (by omega)
  · exact br_f (nI_ge (b := 3) (by omega) (by decide)) (h _ (.inl ⟨by omega, rfl⟩))
theorem dm_rank (h : dm_L Q n c f) (hc : c ≤ 32) {r : Nat} {d : Int32} (h0 : 0 < c) (hr : rk_is Q (fun i => i < n ∧ ∀ k, k < c → gm_ev (Q i) (f k) = 0) r) (hd : dm_D Q n c f d) : 3 - nI r = d := by
  rcases hd with ⟨h3, e⟩ | ⟨h3, hx, e⟩ | ⟨h3, hx, e⟩
  · have : c = 1 ∨ c = 2 := by omega
    rcases this with z | z
    · subst z
      have : r = 3 := rk_c1 (ac := fun p => p < n) h.2.2 (h.1.1 0 (by omega)).1 (rk_cg (fun i => by
        constructor
        · intro a; exact ⟨a.1, a.2 0 (by omega)⟩
        · intro a
          refine ⟨a.1, fun k hk => ?_⟩
          have : k = 0 := by omega
          subst this; exact a.2) hr)
      rw [this, e]; decide
    · subst z
      have hr2 : rk_is Q (fun i => i < n ∧ (gm_ev (Q i) (f 0) = 0 ∧ gm_ev (Q i) (f 1) = 0)) r := rk_cg (fun i => by
        constructor
        · intro a; exact ⟨a.1, a.2 0 (by omega), a.2 1 (by omega)⟩
        · intro a
          refine ⟨a.1, fun k hk => ?_⟩
          have : k = 0 ∨ k = 1 := by omega
          rcases this with z | z <;> subst z
          · exact a.2.1
          · exact a.2.2) hr
      have : r = 2 := (nb_rank h (by omega) (by omega) (by omega) hr2).mpr (fun m hm m1 m2 => by omega)
      rw [this, e]; decide
  · have hl : r < 2 := rk_c3 (ac := fun p => p < n) (h.1.1 0 (by omega)).1 (h.1.1 1 (by omega)).1 (h.1.1 2 (by omega)).1 (dm_npr h (by omega) (by omega) (by omega)) (dm_npr h (by omega) (by omega) (by omega))
      (dm_npr h (by omega) (by omega) (by omega)) (fun i hi => ⟨hi.2 0 (by omega), hi.2 1 (by omega), hi.2 2 (by omega)⟩) hr
    have h1 : ¬ r = 0 := fun z => by
      obtain ⟨i, hi, g⟩ := hx
      exact (rk_0 hr).mp z i ⟨hi, g⟩
    have : r = 1 := by omega
    rw [this, e]; decide
  · have : r = 0 := (rk_0 hr).mpr (fun i hi => hx ⟨i, hi.1, hi.2⟩)
    rw [this, e]; decide
theorem dm_of (hR : rl_R n M D pl nr nb) (hL : ls_L (gm_Vt (rl_Q M D) (fun p => p < 6 + n)) c f) : dm_L (rl_Q M D) (6 + n) c f :=
  ⟨hL, gm_box (fun i hi => ⟨by omega, rl_Q6 i hi⟩), fun i hi => (rl_Q_ok hR.1 i hi).2⟩
theorem yw_dim {post : Int32 → SY → Prop} {d : Int32} (hR : rl_R n M D pl nr nb) (hL : ls_L (gm_Vt (rl_Q M D) (fun p => p < 6 + n)) c f) (hc : c ≤ 32) (hd : dm_D (rl_Q M D) (6 + n) c f d)
    (h : ∀ gu gv gw gd gx gy gz gb gt, yw_A gu gv gw gd (6 + n) (rl_Q M D) → xw_T gt c (6 + n) (rl_Q M D) f → post d (nI n, nI (6 + n), nI c, nr, nb, gu, gv, gw, gd, gx, gy, gz, gb, gt, gf)) : wpY_dimension post (nI n, fp, fk, nr, nb, gu, gv, gw, gd, gx, gy, gz, gb, gt, gf) := by
  have hn8 := hR.1.1
  have hdm := dm_of hR hL
  unfold wpY_dimension
  refine yw_find2 hR hL (fun gu gv gw gd gx gy gz gb gt g1 g2 g3 => ?_)
  refine yw_all hc (fun w hw => ?_)
  refine yw_dimOf g1 (by omega) (fun i hi => (rl_Q_ok hR.1 i hi).1) g3 hc hw (fun z => ?_) (fun hx r hr => ?_)
  · have c0 : c = 0 := by
      by_cases e : c = 0
      · exact e
      · exact absurd trivial (z 0 (by omega))
    have : d = -1 := by
      rcases hd with ⟨_, e⟩ | ⟨h3, _⟩ | ⟨h3, _⟩
      · rw [e, c0]; decide
      · omega
      · omega
    rw [← this]
    exact h _ _ _ _ _ _ _ _ _ g1 g3
  · obtain ⟨k, hk, _⟩ := hx
    rw [dm_rank hdm hc (by omega) (rk_cg (fun i => ⟨fun a => ⟨a.1, fun k hk => a.2 k hk trivial⟩, fun a => ⟨a.1, fun k hk _ => a.2 k hk⟩⟩) hr) hd]
    exact h _ _ _ _ _ _ _ _ _ g1 g3
theorem i_vc_dimension {k : Nat} {u : SX} {v : SY} (I : i_Rel k u v) (hk : k + 3 ≤ 1536) : wpX_dimension (fun r u' => wpY_dimension (fun r' v' => r' = r ∧ i_Rel (k + 3) u' v') v) u := by
  obtain ⟨fc, ff, pl, co, tt, st⟩ := u
  obtain ⟨fn, fp, fk, nr, nb, gu, gv, gw, gd, gx, gy, gz, gb, gt, gf⟩ := v
  obtain ⟨n, M, D, e1, e2, hR⟩ := I
  dsimp only at e1 e2 hR
  subst e1 e2
  have hn8 := hR.1.1
  unfold wpX_dimension
  refine xw_body hR (fun c f co tt hc hL hC hT => ?_)
  refine xw_dim hc (by omega) hT (fun d hd => ?_)
  exact yw_dim hR hL hc hd (fun gu gv gw gd gx gy gz gb gt _ _ => ⟨rfl, n, M, D, rfl, rfl, hR⟩)
end
