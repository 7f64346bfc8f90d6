/-! hops -/
section
variable {fc ff : Int32} {pl co tt st : Nat → Int32} {Q f : Nat → gm_V} {n c : Nat} {M : Nat → Nat} {D : Nat → Int}
variable {fn fp fk : Int32} {nr nb gu gv gw gd gx gy gz gb gt gf : Nat → Int32}
def ho_N (Q : Nat → gm_V) (n c : Nat) (f : Nat → gm_V) (k l : Nat) : Prop := k ≠ l ∧ nb_N Q n c f k l
/-- from every corner there is a way to every other -/
theorem ho_ev3 (a b d p : gm_V) : gm_ev (a.1 + b.1 + d.1, a.2.1 + b.2.1 + d.2.1, a.2.2.1 + b.2.2.1 + d.2.2.1, a.2.2.2 + b.2.2.2 + d.2.2.2) p = gm_ev a p + gm_ev b p + gm_ev d p := by
  simp only [gm_ev]; grind
theorem ho_conn (h : dm_L Q n c f) {k l : Nat} (hk : k < c) (hl : l < c) : ∃ t, hp_R (ho_N Q n c f) c k t l := by
  obtain ⟨⟨lw, lin, i, j, m, hi, hj, hm, hd, ei, ej, em⟩, _⟩ := h.1.1 l hl
  generalize hF : (((Q i).1 + (Q j).1 + (Q m).1, (Q i).2.1 + (Q j).2.1 + (Q m).2.1, (Q i).2.2.1 + (Q j).2.2.1 + (Q m).2.2.1, (Q i).2.2.2 + (Q j).2.2.2 + (Q m).2.2.2) : gm_V) = F
  have hFe : ∀ p, gm_ev F p = gm_ev (Q i) p + gm_ev (Q j) p + gm_ev (Q m) p := fun p => by rw [← hF]; exact ho_ev3 _ _ _ p
  have hw : ∀ v, v < c → 0 < (f v).2.2.2 := fun v hv => (h.1.1 v hv).1.1
  refine hp_conn (fun v => gm_cn (fun b => gm_ev F (f v) * (f b).2.2.2 < gm_ev F (f b) * (f v).2.2.2) c) (fun v hv hvl => ?_) _ k 0 hk rfl (Nat.le_refl _)
  have vv := (h.1.1 v hv).1
  have hneg : gm_ev F (f v) < 0 := by
    have a := vv.2.1 i hi
    have b := vv.2.1 j hj
    have d := vv.2.1 m hm
    have e := hFe (f v)
    rcases Int.lt_or_le (gm_ev F (f v)) 0 with z | z
    · exact z
    · exact absurd (gm_uniq hd (show gm_ev (Q i) (f v) = 0 by omega) (show gm_ev (Q j) (f v) = 0 by omega) (show gm_ev (Q m) (f v) = 0 by omega) ei ej em) (dm_npr h hv hl hvl)
  have hz : gm_ev F (f l) = 0 := by rw [hFe, ei, ej, em]; rfl
  have hlt : gm_ev F (f v) * (f l).2.2.2 < gm_ev F (f l) * (f v).2.2.2 := by
    rw [hz, Int.zero_mul]
    exact Int.mul_neg_of_neg_of_pos hneg lw
  obtain ⟨t, ht, htl, a, b, ha, hb, av, at', bv, bt, hc⟩ := gm_up (ac := fun p => p < n) (n := n) (fun i hi => hi) h.2.1 F vv _ (f l) (h.1.1 l hl).1 hlt (Nat.le_refl _)
  obtain ⟨u, hu, hp, he⟩ := dm_vx h ht
  have hfu : gm_ev F (f v) * (f u).2.2.2 < gm_ev F (f u) * (f v).2.2.2 := by
    have e1 := gm_pr_ev hp F
    exact gm_frac_lt' (hw v hv) ht.1 (hw u hu) htl (Int.le_of_eq e1)
  have huv : v ≠ u := fun z => by rw [← z] at hfu; omega
  refine ⟨u, hu, ⟨huv, fun x hx x1 x2 g => ?_⟩, ?_⟩
  · exact gm_col hc (h.1.1 x hx).1 vv (h.1.1 u hu).1 ⟨g a ha ⟨av, he _ at'⟩, g b hb ⟨bv, he _ bt⟩⟩ ⟨av, bv⟩ ⟨he _ at', he _ bt⟩ (dm_npr h hx hv x1) (dm_npr h hv hu huv) (dm_npr h hu hx (fun z => x2 z.symm))
  · refine gm_cn_lt c (fun x hx g => ?_) ⟨u, hu, hfu, fun z => by omega⟩
    exact gm_frac_lt (hw v hv) (hw u hu) (hw x hx) (Int.le_of_lt hfu) g
theorem ho_ex (h : dm_L Q n c f) {k l : Nat} (hk : k < c) (hl : l < c) : ∃ t, t < c ∧ hp_D (ho_N Q n c f) c k t l := by
  obtain ⟨t, ht⟩ := ho_conn h hk hl
  obtain ⟨d, _, hd⟩ := hp_ex ht
  exact ⟨d, hp_bound hl hd, hd⟩

/-- the component's steps while ring r is at corner K -/
def ho_x (N : Nat → Nat → Prop) (c s r K v : Nat) (x : Int32) : Prop :=
  (∃ t, t ≤ r ∧ hp_D N c s t v ∧ x = nI t) ∨ ((∀ t, t ≤ r → ¬ hp_D N c s t v) ∧ (∃ u, u < K ∧ hp_D N c s r u ∧ N u v) ∧ x = nI (r + 1)) ∨
  ((∀ t, t ≤ r → ¬ hp_D N c s t v) ∧ (¬ ∃ u, u < K ∧ hp_D N c s r u ∧ N u v) ∧ x = -1000002)
theorem ho_n {t : Nat} (h : t < 2 ^ 31) : ¬ nI t = -1000002 := fun e => absurd (e ▸ nI_pos' h : (0 : Int32) ≤ -1000002) (by decide)
theorem ho_x_r {N : Nat → Nat → Prop} {s r K v : Nat} {x : Int32} (hr : r < 1000) (h : ho_x N c s r K v x) : x = nI r ↔ hp_D N c s r v := by
  rcases h with ⟨t, ht, hd, e⟩ | ⟨hn, _, e⟩ | ⟨hn, _, e⟩
  · constructor
    · intro g
      have : t = r := (nI_eq (by omega) (by omega)).mp (e.symm.trans g)
      subst this; exact hd
    · intro g
      have := hp_Du hd g
      subst this; exact e
  · constructor
    · intro g
      have := (nI_eq (by omega) (by omega)).mp (e.symm.trans g)
      omega
    · intro g; exact absurd g (hn r (Nat.le_refl _))
  · constructor
    · intro g; exact absurd (g.symm.trans e) (ho_n (by omega))
    · intro g; exact absurd g (hn r (Nat.le_refl _))
theorem ho_x_skip {N : Nat → Nat → Prop} {s r K v : Nat} {x : Int32} (hK : ¬ (hp_D N c s r K ∧ N K v)) (h : ho_x N c s r K v x) : ho_x N c s r (K + 1) v x := by
  rcases h with ⟨t, ht, hd, e⟩ | ⟨hn, ⟨u, hu, a, b⟩, e⟩ | ⟨hn, hx, e⟩
  · exact .inl ⟨t, ht, hd, e⟩
  · exact .inr (.inl ⟨hn, ⟨u, by omega, a, b⟩, e⟩)
  · refine .inr (.inr ⟨hn, fun hy => ?_, e⟩)
    obtain ⟨u, hu, a, b⟩ := hy
    by_cases z : u = K
    · subst z; exact hK ⟨a, b⟩
    · exact hx ⟨u, by omega, a, b⟩
theorem ho_x_old {N : Nat → Nat → Prop} {s r K v : Nat} {x : Int32} (hx : x ≠ -1000002) (h : ho_x N c s r K v x) : ho_x N c s r (K + 1) v x := by
  rcases h with ⟨t, ht, hd, e⟩ | ⟨hn, ⟨u, hu, a, b⟩, e⟩ | ⟨hn, _, e⟩
  · exact .inl ⟨t, ht, hd, e⟩
  · exact .inr (.inl ⟨hn, ⟨u, by omega, a, b⟩, e⟩)
  · exact absurd e hx
theorem ho_x_new {N : Nat → Nat → Prop} {s r K v : Nat} {x : Int32} (hr : r < 1000) (hx : x = -1000002) (h : ho_x N c s r K v x) (hK : hp_D N c s r K) (hN : N K v) : ho_x N c s r (K + 1) v (nI (r + 1)) := by
  rcases h with ⟨t, ht, hd, e⟩ | ⟨hn, _, e⟩ | ⟨hn, _, e⟩
  · exact absurd (e.symm.trans hx) (ho_n (by omega))
  · exact absurd (e.symm.trans hx) (ho_n (by omega))
  · exact .inr (.inl ⟨hn, ⟨K, by omega, hK, hN⟩, rfl⟩)
theorem ho_x_ring {N : Nat → Nat → Prop} {s r v : Nat} {x : Int32} (h : ho_x N c s r c v x) : ho_x N c s (r + 1) 0 v x := by
  rcases h with ⟨t, ht, hd, e⟩ | ⟨hn, ⟨u, hu, a, b⟩, e⟩ | ⟨hn, hx, e⟩
  · exact .inl ⟨t, by omega, hd, e⟩
  · obtain ⟨d, hd, hD⟩ := hp_Dn hu a b
    have : d = r + 1 := by
      by_cases z : d = r + 1
      · exact z
      · exact absurd hD (hn d (by omega))
    subst this
    exact .inl ⟨r + 1, Nat.le_refl _, hD, e⟩
  · refine .inr (.inr ⟨fun t ht g => ?_, fun hy => ?_, e⟩)
    · by_cases z : t = r + 1
      · subst z
        obtain ⟨u, hu, a, b⟩ := hp_Ds g
        exact hx ⟨u, hu, a, b⟩
      · exact hn t (by omega) g
    · obtain ⟨u, hu, _⟩ := hy
      omega
theorem xw_re2 {post : SX → Prop} {s r K : Nat} (hc : c ≤ 32) (hn : n ≤ 16) (hT : xw_T tt c n Q f) (hr : r < 1000) (hK : K < c) (hD : hp_D (ho_N Q n c f) c s r K)
    (h : ∀ st, (∀ v, v < c → ho_x (ho_N Q n c f) c s r (K + 1) v (st v)) → post (fc, nI c, pl, co, tt, st)) :
    ∀ (d l : Nat) (st : Nat → Int32), l + d = c → (∀ v, v < l → ho_x (ho_N Q n c f) c s r (K + 1) v (st v)) → (∀ v, l ≤ v → v < c → ho_x (ho_N Q n c f) c s r K v (st v)) →
      wX_reachNeighbours_2 post (nI K) fc (nI c) (d + 1) (nI l) pl co tt st := by
  intro d
  induction d with
  | zero =>
    intro l st hl h1 h2
    have : l = c := by omega
    subst this
    exact br_t (nI_le (Nat.le_refl _) (by omega)) (h st h1)
  | succ d ih =>
    intro l st hl h1 h2
    have hxl := h2 l (by omega) (by omega)
    have hsK : st K = nI r := by
      by_cases e : K < l
      · exact (ho_x_r hr (h1 K e)).mpr hD
      · exact (ho_x_r hr (h2 K (by omega) hK)).mpr hD
    have nx : ho_x (ho_N Q n c f) c s r (K + 1) l (st l) → ∀ z, z = nI l + 1 → wX_reachNeighbours_2 post (nI K) fc (nI c) (d + 1) z pl co tt st := by
      intro g
      refine nm_r (nI_1 l) (ih (l + 1) st (by omega) (fun v hv => ?_) (fun v a b => h2 v (by omega) b))
      by_cases e : v = l
      · subst e; exact g
      · exact h1 v (by omega)
    refine br_f (nI_ge (by omega) (by omega)) ⟨vp_in_nI (by omega) (by omega), ?_⟩
    rw [nI_clamp (by omega)]
    refine br_c (fun e => ?_) (fun e => nx (ho_x_old e hxl))
    have hKl : K ≠ l := fun z => by
      subst z
      exact ho_n (by omega) (hsK.symm.trans e)
    refine xw_nb hc hn hT hK (by omega) (fun g => ?_) (fun g => br_t rfl (nx (ho_x_skip (fun z => g z.2.2) hxl)))
    refine br_f (by decide) ⟨vp_in_nI (by omega) (by omega), vp_in_nI (by omega) (by omega), ?_⟩
    rw [nI_clamp (by omega), hsK, nI_1 r]
    refine nm_e (nm_r (nI_1 l) (ih (l + 1) _ (by omega) (fun v hv => ?_) (fun v a b => ?_)))
    · by_cases z : v = l
      · subst z; rw [pk_us]; exact ho_x_new hr e hxl hD ⟨hKl, g⟩
      · rw [pk_un z]; exact h1 v (by omega)
    · rw [pk_un (by omega)]; exact h2 v (by omega) b
theorem xw_cs45 {post : SX → Prop} {J : Int32 → Int32 → Int32 → (Nat → Int32) → (Nat → Int32) → (Nat → Int32) → (Nat → Int32) → Prop} {s r : Nat} (hc : c ≤ 32) (hn : n ≤ 16) (hT : xw_T tt c n Q f) (hr : r < 1000)
    (h : ∀ st, (∀ v, v < c → ho_x (ho_N Q n c f) c s r c v (st v)) → J (nI (r + 1)) fc (nI c) pl co tt st) :
    ∀ (d K : Nat) (st : Nat → Int32), K + d = c → (∀ v, v < c → ho_x (ho_N Q n c f) c s r K v (st v)) → wX_countStepsFrom_45 post J (nI r) (d + 1) (nI K) fc (nI c) pl co tt st := by
  intro d
  induction d with
  | zero =>
    intro K st hK h1
    have : K = c := by omega
    subst this
    exact br_t (nI_le (Nat.le_refl _) (by omega)) (nm_r (nI_1 r) (h st h1))
  | succ d ih =>
    intro K st hK h1
    have hx := ho_x_r hr (h1 K (by omega))
    refine br_f (nI_ge (by omega) (by omega)) ⟨vp_in_nI (by omega) (by omega), ?_⟩
    rw [nI_clamp (by omega)]
    refine br_c (fun e => ?_) (fun e => ?_)
    · refine ⟨c + 1, xw_re2 hc hn hT hr (by omega) (hx.mp e) (fun st' h2 => ?_) c 0 st (by omega) (fun v hv => by omega) (fun v _ b => h1 v b)⟩
      exact nm_r (nI_1 K) (ih (K + 1) st' (by omega) h2)
    · exact nm_r (nI_1 K) (ih (K + 1) st (by omega) (fun v hv => ho_x_skip (fun z => e (hx.mpr z.1)) (h1 v hv)))
theorem xw_cs35 {post : SX → Prop} {s : Nat} (hc : c ≤ 32) (hn : n ≤ 16) (hT : xw_T tt c n Q f) (h : ∀ st, (∀ v, v < c → ho_x (ho_N Q n c f) c s c 0 v (st v)) → post (fc, nI c, pl, co, tt, st)) :
    ∀ (d r : Nat) (st : Nat → Int32), r + d = c → (∀ v, v < c → ho_x (ho_N Q n c f) c s r 0 v (st v)) → wX_countStepsFrom_35 post (d + 1) (nI r) fc (nI c) pl co tt st := by
  intro d
  induction d with
  | zero =>
    intro r st hr h1
    have : r = c := by omega
    subst this
    exact br_t (nI_le (Nat.le_refl _) (by omega)) (h st h1)
  | succ d ih =>
    intro r st hr h1
    exact br_f (nI_ge (by omega) (by omega)) ⟨c + 1, xw_cs45 hc hn hT (by omega) (fun st' h2 => ih (r + 1) st' (by omega) (fun v hv => ho_x_ring (h2 v hv))) c 0 st (by omega) h1⟩
theorem xw_cs2 {post : SX → Prop} {s : Nat} (hc : c ≤ 32) (hn : n ≤ 16) (hT : xw_T tt c n Q f) (hs : s < c) (h : ∀ st, (∀ v, v < c → ho_x (ho_N Q n c f) c s c 0 v (st v)) → post (fc, nI c, pl, co, tt, st)) :
    ∀ (d k : Nat) (st : Nat → Int32), k + d = c → (∀ v, v < k → st v = if v = s then 0 else -1000002) → wX_countStepsFrom_2 post (nI s) fc (nI c) (d + 1) (nI k) pl co tt st := by
  intro d
  induction d with
  | zero =>
    intro k st hk h1
    have : k = c := by omega
    subst this
    refine br_t (nI_le (Nat.le_refl _) (by omega)) ⟨k + 1, xw_cs35 hc hn hT h k 0 st (by omega) (fun v hv => ?_)⟩
    have := h1 v hv
    by_cases e : v = s
    · subst e
      rw [if_pos rfl] at this
      exact .inl ⟨0, Nat.le_refl _, hp_Dk, this⟩
    · rw [if_neg e] at this
      refine .inr (.inr ⟨fun t ht g => ?_, fun hy => ?_, this⟩)
      · have : t = 0 := by omega
        subst this
        exact e (hp_D0 g)
      · obtain ⟨u, hu, _⟩ := hy
        omega
  | succ d ih =>
    intro k st hk h1
    refine br_f (nI_ge (by omega) (by omega)) ?_
    rw [nI_clamp (by omega)]
    by_cases e : k = s
    · refine br_t (by rw [e]) ⟨vp_in_nI (by omega) (by omega), nm_e (nm_r (nI_1 k) (ih (k + 1) _ (by omega) (fun v hv => ?_)))⟩
      by_cases z : v = k
      · subst z; rw [pk_us, if_pos e]
      · rw [pk_un z]; exact h1 v (by omega)
    · refine br_f (fun z => e ((nI_eq (by omega) (by omega)).mp z)) ⟨vp_in_nI (by omega) (by omega), nm_e (nm_r (nI_1 k) (ih (k + 1) _ (by omega) (fun v hv => ?_)))⟩
      by_cases z : v = k
      · subst z; rw [pk_us, if_neg e]
      · rw [pk_un z]; exact h1 v (by omega)
theorem xw_cs {post : SX → Prop} {s : Nat} (hc : c ≤ 32) (hn : n ≤ 16) (hT : xw_T tt c n Q f) (hs : s < c) (h : ∀ st, (∀ v t, v < c → t < c → hp_D (ho_N Q n c f) c s t v → st v = nI t) → post (fc, nI c, pl, co, tt, st)) :
    wpX_countStepsFrom post (fc, nI c, pl, co, tt, st) (nI s) := by
  refine ⟨c + 1, xw_cs2 hc hn hT hs (fun st' h1 => h st' (fun v t hv ht hd => ?_)) c 0 st (by omega) (fun v hv => by omega)⟩
  rcases h1 v hv with ⟨t', _, hd', e⟩ | ⟨hn, _, _⟩ | ⟨hn, _, _⟩
  · have := hp_Du hd hd'
    subst this; exact e
  · exact absurd hd (hn t (by omega))
  · exact absurd hd (hn t (by omega))

/-- the reference's distances -/
def ho_y (N : Nat → Nat → Prop) (c s : Nat) (a : Nat → Nat) : Prop := ∀ v, v < c → a v ≤ 100 ∧ (a v = 100 ∨ hp_R N c s (a v) v)
def ho_a (g : Nat → Int32) (c : Nat) (a : Nat → Nat) : Prop := ∀ v, v < c → g v = nI (a v)
theorem ho_y_upd {N : Nat → Nat → Prop} {s i j : Nat} {a : Nat → Nat} (h : ho_y N c s a) (hi : i < c) (hj : j < c) (hN : N i j) (hl : a i + 1 < a j) : ho_y N c s (fun v => if v = j then a i + 1 else a v) := by
  intro v hv
  by_cases e : v = j
  · subst e
    simp only [if_pos]
    have h1 := (h v hv).1
    refine ⟨by omega, .inr (.inr ⟨i, hi, ?_, hN⟩)⟩
    rcases (h i hi).2 with z | z
    · omega
    · exact z
  · simp only [if_neg e]; exact h v hv
theorem yw_sp12 {post : SY → Prop} {J : Int32 → (Nat → Int32) → (Nat → Int32) → (Nat → Int32) → (Nat → Int32) → (Nat → Int32) → (Nat → Int32) → (Nat → Int32) → (Nat → Int32) → (Nat → Int32) → (Nat → Int32) → (Nat → Int32) → (Nat → Int32) → Prop}
    {s i : Nat} {a0 : Nat → Nat} (hd : dm_L Q n c f) (hc : c ≤ 32) (hn : n ≤ 16) (hok : ∀ i, i < n → gm_ok (Q i)) (hQ : yw_A gu gv gw gd n Q) (hT : xw_T gt c n Q f) (hi : i < c)
    (h : ∀ gf a, ho_a gf c a → ho_y (ho_N Q n c f) c s a → (∀ v, v < c → a v ≤ a0 v) → (∀ x y, x < c → y < c → x ≤ i → ho_N Q n c f x y → a y ≤ a0 x + 1) → J (nI (i + 1)) nr nb gu gv gw gd gx gy gz gb gt gf) :
    ∀ (d j : Nat) (gf : Nat → Int32) (a : Nat → Nat), j + d = c → ho_a gf c a → ho_y (ho_N Q n c f) c s a → (∀ v, v < c → a v ≤ a0 v) → (∀ x y, x < c → y < c → (x < i ∨ (x = i ∧ y < j)) → ho_N Q n c f x y → a y ≤ a0 x + 1) →
      wY_spread_12 post J (nI i) fn (nI n) (nI c) (d + 1) (nI j) nr nb gu gv gw gd gx gy gz gb gt gf := by
  intro d
  induction d with
  | zero =>
    intro j gf a hj ha hy h1 h2
    have : j = c := by omega
    subst this
    exact br_t (nI_le (Nat.le_refl _) (by omega)) (nm_r (nI_1 i) (h gf a ha hy h1 (fun x y hx hy' hxi => h2 x y hx hy' (by omega))))
  | succ d ih =>
    intro j gf a hj ha hy h1 h2
    have ai := (hy i hi).1
    have aj := (hy j (by omega)).1
    have nx : (ho_N Q n c f i j → a j ≤ a0 i + 1) → ∀ z, z = nI j + 1 → wY_spread_12 post J (nI i) fn (nI n) (nI c) (d + 1) z nr nb gu gv gw gd gx gy gz gb gt gf := by
      intro g
      refine nm_r (nI_1 j) (ih (j + 1) gf a (by omega) ha hy h1 (fun x y hx hy' hxi hN => ?_))
      by_cases e : x = i ∧ y = j
      · obtain ⟨e1, e2⟩ := e
        subst e1 e2; exact g hN
      · exact h2 x y hx hy' (by omega) hN
    refine br_f (nI_ge (by omega) (by omega)) ⟨vp_in_nI (by omega) (by omega), vp_in_nI (by omega) (by omega), ?_⟩
    rw [nI_clamp (by omega), nI_clamp (by omega), ha i hi, ha j (by omega), nI_1 (a i)]
    have a0i := h1 i hi
    by_cases e : a j ≤ a i + 1
    · exact br_t (nI_le e (by omega)) (nx (fun _ => by omega))
    · refine br_f (nI_ge (by omega) (by omega)) (yw_nb hd hc hn hok hQ hT hi (by omega) (fun g1 g2 => ?_) (fun g => br_t rfl (nx (fun hN => ?_))))
      · refine br_f (by decide) ⟨vp_in_nI (by omega) (by omega), vp_in_nI (by omega) (by omega), nm_e (nm_r (nI_1 j) (ih (j + 1) _ (fun v => if v = j then a i + 1 else a v) (by omega) (fun v hv => ?_)
          (ho_y_upd hy hi (by omega) ⟨g1, g2⟩ (by omega)) (fun v hv => ?_) (fun x y hx hy' hxi hN => ?_)))⟩
        · by_cases z : v = j
          · subst z; rw [pk_us]; simp
          · rw [pk_un z]; simp only [if_neg z]; exact ha v hv
        · have := h1 v hv
          by_cases z : v = j
          · subst z; simp; omega
          · simp only [if_neg z]; exact this
        · by_cases z : y = j
          · subst z
            simp only [if_pos]
            by_cases w : x = i
            · subst w; omega
            · have := h2 x y hx hy' (by omega) hN
              omega
          · simp only [if_neg z]; exact h2 x y hx hy' (by omega) hN
      · rcases g with g | g
        · exact absurd g hN.1
        · exact absurd hN.2 g
theorem yw_sp2 {post : SY → Prop} {s : Nat} {a0 : Nat → Nat} (hd : dm_L Q n c f) (hc : c ≤ 32) (hn : n ≤ 16) (hok : ∀ i, i < n → gm_ok (Q i)) (hQ : yw_A gu gv gw gd n Q) (hT : xw_T gt c n Q f)
    (h : ∀ gf a, ho_a gf c a → ho_y (ho_N Q n c f) c s a → (∀ v, v < c → a v ≤ a0 v) → (∀ x y, x < c → y < c → ho_N Q n c f x y → a y ≤ a0 x + 1) → post (fn, nI n, nI c, nr, nb, gu, gv, gw, gd, gx, gy, gz, gb, gt, gf)) :
    ∀ (d i : Nat) (gf : Nat → Int32) (a : Nat → Nat), i + d = c → ho_a gf c a → ho_y (ho_N Q n c f) c s a → (∀ v, v < c → a v ≤ a0 v) → (∀ x y, x < c → y < c → x < i → ho_N Q n c f x y → a y ≤ a0 x + 1) →
      wY_spread_2 post fn (nI n) (nI c) (d + 1) (nI i) nr nb gu gv gw gd gx gy gz gb gt gf := by
  intro d
  induction d with
  | zero =>
    intro i gf a hi ha hy h1 h2
    have : i = c := by omega
    subst this
    exact br_t (nI_le (Nat.le_refl _) (by omega)) (h gf a ha hy h1 (fun x y hx hy' => h2 x y hx hy' hx))
  | succ d ih =>
    intro i gf a hi ha hy h1 h2
    exact br_f (nI_ge (by omega) (by omega)) ⟨c + 1, yw_sp12 hd hc hn hok hQ hT (by omega) (fun gf a b1 b2 b3 b4 => ih (i + 1) gf a (by omega) b1 b2 b3 (fun x y hx hy' hxi => b4 x y hx hy' (by omega))) c 0 gf a (by omega) ha hy h1
      (fun x y hx hy' hxi => h2 x y hx hy' (by omega))⟩
theorem yw_ho72 {post : Int32 → SY → Prop} {s l : Nat} (hd : dm_L Q n c f) (hc : c ≤ 32) (hn : n ≤ 16) (hok : ∀ i, i < n → gm_ok (Q i)) (hQ : yw_A gu gv gw gd n Q) (hT : xw_T gt c n Q f) (hl : l < c)
    (h : ∀ gf a, ho_y (ho_N Q n c f) c s a → (∀ t v, v < c → t ≤ c → hp_R (ho_N Q n c f) c s t v → a v ≤ t) → post (nI (a l)) (fn, nI n, nI c, nr, nb, gu, gv, gw, gd, gx, gy, gz, gb, gt, gf)) :
    ∀ (d r : Nat) (gf : Nat → Int32) (a : Nat → Nat), r + d = c → ho_a gf c a → ho_y (ho_N Q n c f) c s a → (∀ t v, v < c → t ≤ r → hp_R (ho_N Q n c f) c s t v → a v ≤ t) → wY_hops_72 post (nI l) (d + 1) (nI r) fn (nI n) (nI c) nr nb gu gv gw gd gx gy gz gb gt gf := by
  intro d
  induction d with
  | zero =>
    intro r gf a hr ha hy h1
    have : r = c := by omega
    subst this
    refine br_t (nI_le (Nat.le_refl _) (by omega)) ⟨vp_in_nI (by omega) (by omega), ?_⟩
    rw [nI_clamp (by omega), ha l hl]
    exact h gf a hy h1
  | succ d ih =>
    intro r gf a hr ha hy h1
    refine br_f (nI_ge (by omega) (by omega)) ⟨c + 1, yw_sp2 (a0 := a) hd hc hn hok hQ hT (fun gf' a' b1 b2 b3 b4 => ?_) c 0 gf a (by omega) ha hy (fun _ _ => Nat.le_refl _) (fun x y _ _ hx => by omega)⟩
    refine nm_r (nI_1 r) (ih (r + 1) gf' a' (by omega) b1 b2 (fun t v hv ht hR => ?_))
    cases t with
    | zero =>
      have a1 := h1 0 v hv (by omega) hR
      have a2 := b3 v hv
      omega
    | succ t =>
      rcases hR with hR | ⟨u, hu, hR, hN⟩
      · have a1 := h1 t v hv (by omega) hR
        have a2 := b3 v hv
        omega
      · have a1 := h1 t u hu (by omega) hR
        have a2 := b4 u v hu hv hN
        omega
theorem yw_ho39 {post : Int32 → SY → Prop} {s l : Nat} (hd : dm_L Q n c f) (hc : c ≤ 32) (hn : n ≤ 16) (hok : ∀ i, i < n → gm_ok (Q i)) (hQ : yw_A gu gv gw gd n Q) (hT : xw_T gt c n Q f) (hs : s < c) (hl : l < c)
    (h : ∀ gf a, ho_y (ho_N Q n c f) c s a → (∀ t v, v < c → t ≤ c → hp_R (ho_N Q n c f) c s t v → a v ≤ t) → post (nI (a l)) (fn, nI n, nI c, nr, nb, gu, gv, gw, gd, gx, gy, gz, gb, gt, gf)) :
    ∀ (d k : Nat) (gf : Nat → Int32), k + d = c → (∀ v, v < k → gf v = if v = s then 0 else 100) → wY_hops_39 post (nI s) (nI l) fn (nI n) (nI c) (d + 1) (nI k) nr nb gu gv gw gd gx gy gz gb gt gf := by
  intro d
  induction d with
  | zero =>
    intro k gf hk h1
    have : k = c := by omega
    subst this
    refine br_t (nI_le (Nat.le_refl _) (by omega)) ⟨k + 1, yw_ho72 (s := s) hd hc hn hok hQ hT hl h k 0 gf (fun v => if v = s then 0 else 100) (by omega) (fun v hv => ?_) (fun v hv => ?_) (fun t v hv ht hR => ?_)⟩
    · rw [h1 v hv]
      by_cases e : v = s
      · simp only [if_pos e]; rfl
      · simp only [if_neg e]; rfl
    · by_cases e : v = s
      · simp only [if_pos e]; exact ⟨by omega, .inr e⟩
      · simp only [if_neg e]; exact ⟨by omega, .inl (by trivial)⟩
    · have : t = 0 := by omega
      subst this
      have e : v = s := hR
      simp only [if_pos e]
      omega
  | succ d ih =>
    intro k gf hk h1
    refine br_f (nI_ge (by omega) (by omega)) ?_
    rw [nI_clamp (by omega)]
    by_cases e : k = s
    · refine br_t (by rw [e]) ⟨vp_in_nI (by omega) (by omega), nm_e (nm_r (nI_1 k) (ih (k + 1) _ (by omega) (fun v hv => ?_)))⟩
      by_cases z : v = k
      · subst z; rw [pk_us, if_pos e]
      · rw [pk_un z]; exact h1 v (by omega)
    · refine br_f (fun z => e ((nI_eq (by omega) (by omega)).mp z)) ⟨vp_in_nI (by omega) (by omega), nm_e (nm_r (nI_1 k) (ih (k + 1) _ (by omega) (fun v hv => ?_)))⟩
      by_cases z : v = k
      · subst z; rw [pk_us, if_neg e]
      · rw [pk_un z]; exact h1 v (by omega)
theorem i_vc_hops {k : Nat} {u : SX} {v : SY} (I : i_Rel k u v) (hk : k + 3 ≤ 1536) (v1 : Int32) (v2 : Int32) : wpX_hops (fun r u' => wpY_hops (fun r' v' => r' = r ∧ i_Rel (k + 3) u' v') v v1 v2) u v1 v2 := by
  obtain ⟨fc, ff, pl, co, tt, st⟩ := u
  obtain ⟨fn, fp, fk, nr, nb, gu, gv, gw, gd, gx, gy, gz, gb, gt, gf⟩ := v
  obtain ⟨n, M, D, e1, e2, hR⟩ := I
  dsimp only at e1 e2 hR
  subst e1 e2
  have hn8 := hR.1.1
  unfold wpX_hops
  refine xw_body hR (fun c f co tt hc hL hC hT => ?_)
  have hdm := dm_of hR hL
  refine xw_isK (by omega) (fun s hs es => ?_) (fun hx => ?_)
  · subst es
    refine br_f (by decide) (xw_isK (by omega) (fun l hl el => ?_) (fun hx => ?_))
    · subst el
      obtain ⟨t, ht, hD⟩ := ho_ex hdm hs hl
      refine br_f (by decide) (xw_cs hc (by omega) hT hs (fun st' h1 => ?_))
      refine ⟨vp_in_nI (by omega) (by omega), ?_⟩
      rw [nI_clamp (by omega), h1 l t hl ht hD]
      unfold wpY_hops
      refine yw_find2 hR hL (fun gu gv gw gd gx gy gz gb gt g1 g2 g3 => ?_)
      refine yw_ix (c := c) (by omega) rfl (fun _ _ _ => br_f (by decide) ?_) (fun hx => absurd ⟨s, hs, rfl⟩ hx)
      refine yw_ix (c := c) (by omega) rfl (fun _ _ _ => br_f (by decide) ?_) (fun hx => absurd ⟨l, hl, rfl⟩ hx)
      refine ⟨c + 1, yw_ho39 hdm hc (by omega) (fun i hi => (rl_Q_ok hR.1 i hi).1) g1 g3 hs hl (fun gf' a b1 b2 => ⟨?_, n, M, D, rfl, rfl, hR⟩) c 0 gf (by omega) (fun v hv => by omega)⟩
      have a1 := b2 t l hl (by omega) hD.1
      have a2 : a l = t := by
        rcases (b1 l hl).2 with z | z
        · omega
        · rcases Nat.lt_or_ge (a l) t with y | y
          · exact absurd z (hD.2 _ y)
          · omega
      rw [a2]
    · refine br_t rfl ?_
      unfold wpY_hops
      refine yw_find2 hR hL (fun gu gv gw gd gx gy gz gb gt g1 g2 g3 => ?_)
      refine yw_ix (c := c) (by omega) rfl (fun _ _ _ => br_f (by decide) ?_) (fun hx => absurd ⟨s, hs, rfl⟩ hx)
      exact yw_ix (c := c) (by omega) rfl (fun j hj ej => absurd ⟨j, hj, ej⟩ hx) (fun _ => br_t rfl ⟨rfl, n, M, D, rfl, rfl, hR⟩)
  · refine br_t rfl ?_
    unfold wpY_hops
    refine yw_find2 hR hL (fun gu gv gw gd gx gy gz gb gt g1 g2 g3 => ?_)
    exact yw_ix (c := c) (by omega) rfl (fun j hj ej => absurd ⟨j, hj, ej⟩ hx) (fun _ => br_t rfl ⟨rfl, n, M, D, rfl, rfl, hR⟩)
end
