/-! edges, faces -/
section
/-- sums, and counting couples by rows or by columns -/
def ed_s (g : Nat → Nat) : Nat → Nat
  | 0 => 0
  | k + 1 => ed_s g k + g k
theorem ed_cg {g h : Nat → Nat} : ∀ N : Nat, (∀ i, i < N → g i = h i) → ed_s g N = ed_s h N := by
  intro N
  induction N with
  | zero => intro _; rfl
  | succ N ih => intro e; rw [ed_s, ed_s, ih (fun i hi => e i (by omega)), e N (by omega)]
theorem ed_add {g h : Nat → Nat} : ∀ N : Nat, ed_s (fun i => g i + h i) N = ed_s g N + ed_s h N := by
  intro N
  induction N with
  | zero => rfl
  | succ N ih => rw [ed_s, ed_s, ed_s, ih]; omega
theorem ed_0 : ∀ N : Nat, ed_s (fun _ => 0) N = 0 := by
  intro N
  induction N with
  | zero => rfl
  | succ N ih => rw [ed_s, ih]
noncomputable def ed_b (p : Prop) : Nat := @ite Nat p (Classical.propDecidable p) 1 0
theorem ed_cn (P : Nat → Prop) : ∀ N : Nat, gm_cn P N = ed_s (fun i => ed_b (P i)) N := by
  intro N
  induction N with
  | zero => rfl
  | succ N ih => rw [ed_s, ← ih, gm_cn]; rfl
theorem ed_swap (R : Nat → Nat → Prop) (m : Nat) : ∀ N : Nat, ed_s (fun k => gm_cn (R k) m) N = ed_s (fun l => gm_cn (fun k => R k l) N) m := by
  intro N
  induction N with
  | zero =>
    rw [ed_s]
    exact (ed_0 m).symm
  | succ N ih =>
    rw [ed_s, ih]
    rw [ed_cg (g := fun l => gm_cn (fun k => R k l) (N + 1)) (h := fun l => gm_cn (fun k => R k l) N + ed_b (R N l)) m (fun i hi => by rw [gm_cn]; rfl), ed_add, ← ed_cn]
theorem ed_ext {P : Nat → Prop} {a : Nat} : ∀ c : Nat, a ≤ c → (∀ i, a ≤ i → i < c → ¬ P i) → gm_cn P c = gm_cn P a := by
  intro c
  induction c with
  | zero => intro h _; have : a = 0 := by omega
            subst this; rfl
  | succ c ih =>
    intro h hn
    by_cases e : a = c + 1
    · subst e; rfl
    · rw [gm_cn_f (hn c (by omega) (by omega))]
      exact ih (by omega) (fun i h1 h2 => hn i h1 (by omega))

variable {fc ff : Int32} {pl co tt st : Nat → Int32} {Q f : Nat → gm_V} {n c : Nat} {M : Nat → Nat} {D : Nat → Int}
variable {fn fp fk : Int32} {nr nb gu gv gw gd gx gy gz gb gt gf : Nat → Int32}
/-- couples, the smaller first -/
def ed_R (Q : Nat → gm_V) (n c : Nat) (f : Nat → gm_V) (k l : Nat) : Prop := k < l ∧ nb_N Q n c f k l
theorem xw_ed20 {post : Int32 → SX → Prop} {J : Int32 → Int32 → Prop} {k B : Nat} (hc : c ≤ 32) (hn : n ≤ 16) (hT : xw_T tt c n Q f) (hk : k < c) (h : J (nI (B + gm_cn (ed_R Q n c f k) c)) (nI (k + 1))) :
    ∀ d l : Nat, l + d = c → k < l → wX_edges_20 post J (nI k) fc (nI c) pl co tt st (d + 1) (nI (B + gm_cn (ed_R Q n c f k) l)) (nI l) := by
  intro d
  induction d with
  | zero =>
    intro l hl _
    have : l = c := by omega
    subst this
    exact br_t (nI_le (Nat.le_refl _) (by omega)) (nm_r (nI_1 k) h)
  | succ d ih =>
    intro l hl hkl
    have nx := ih (l + 1) (by omega) (by omega)
    refine br_f (nI_ge (by omega) (by omega)) (xw_nb hc hn hT hk (by omega) (fun g => ?_) (fun g => ?_))
    · rw [gm_cn_t (P := ed_R Q n c f k) ⟨hkl, g⟩] at nx
      exact br_f (by decide) (nm_r (nI_1 _) (nm_r (nI_1 l) nx))
    · rw [gm_cn_f (P := ed_R Q n c f k) (fun z => g z.2)] at nx
      exact br_t rfl (nm_r (nI_1 l) nx)
theorem xw_ed8 {post : Int32 → SX → Prop} (hc : c ≤ 32) (hn : n ≤ 16) (hT : xw_T tt c n Q f) (h : post (nI (ed_s (fun k => gm_cn (ed_R Q n c f k) c) c)) (fc, nI c, pl, co, tt, st)) :
    ∀ d k : Nat, k + d = c → wX_edges_8 post fc (nI c) pl co tt st (d + 1) (nI (ed_s (fun k => gm_cn (ed_R Q n c f k) c) k)) (nI k) := by
  intro d
  induction d with
  | zero =>
    intro k hk
    have : k = c := by omega
    subst this
    exact br_t (nI_le (Nat.le_refl _) (by omega)) h
  | succ d ih =>
    intro k hk
    refine br_f (nI_ge (by omega) (by omega)) (nm_r (nI_1 k) ⟨c - (k + 1) + 1, ?_⟩)
    have := xw_ed20 (post := post) (J := wX_edges_8 post fc (nI c) pl co tt st (d + 1)) (fc := fc) (pl := pl) (co := co) (st := st) (B := ed_s (fun k => gm_cn (ed_R Q n c f k) c) k) hc hn hT (show k < c by omega) (ih (k + 1) (by omega)) (c - (k + 1)) (k + 1) (by omega) (by omega)
    rw [sh_cn_0 (P := ed_R Q n c f k) (k + 1) (fun i hi z => by have := z.1; omega), Nat.add_zero] at this
    exact this
theorem yw_ed18 {post : Int32 → SY → Prop} {J : Int32 → Int32 → Prop} {j B : Nat} (hd : dm_L Q n c f) (hc : c ≤ 32) (hn : n ≤ 16) (hok : ∀ i, i < n → gm_ok (Q i)) (hQ : yw_A gu gv gw gd n Q) (hT : xw_T gt c n Q f) (hj : j < c)
    (h : J (nI (B + gm_cn (fun k => ed_R Q n c f k j) j)) (nI (j + 1))) :
    ∀ d k : Nat, k + d = j → wY_edges_18 post J (nI j) fn (nI n) (nI c) nr nb gu gv gw gd gx gy gz gb gt gf (d + 1) (nI (B + gm_cn (fun k => ed_R Q n c f k j) k)) (nI k) := by
  intro d
  induction d with
  | zero =>
    intro k hk
    have : k = j := by omega
    subst this
    exact br_t (nI_le (Nat.le_refl _) (by omega)) (nm_r (nI_1 k) h)
  | succ d ih =>
    intro k hk
    have nx := ih (k + 1) (by omega)
    refine br_f (nI_ge (by omega) (by omega)) (yw_nb hd hc hn hok hQ hT hj (by omega) (fun _ g => ?_) (fun g => ?_))
    · rw [gm_cn_t (P := fun k => ed_R Q n c f k j) ⟨by omega, nb_symm.mp g⟩] at nx
      exact br_f (by decide) (nm_r (nI_1 _) (nm_r (nI_1 k) nx))
    · rw [gm_cn_f (P := fun k => ed_R Q n c f k j) (fun z => by
        rcases g with g | g
        · omega
        · exact g (nb_symm.mp z.2))] at nx
      exact br_t rfl (nm_r (nI_1 k) nx)
theorem yw_ed8 {post : Int32 → SY → Prop} (hd : dm_L Q n c f) (hc : c ≤ 32) (hn : n ≤ 16) (hok : ∀ i, i < n → gm_ok (Q i)) (hQ : yw_A gu gv gw gd n Q) (hT : xw_T gt c n Q f)
    (h : post (nI (ed_s (fun l => gm_cn (fun k => ed_R Q n c f k l) l) c)) (fn, nI n, nI c, nr, nb, gu, gv, gw, gd, gx, gy, gz, gb, gt, gf)) :
    ∀ d j : Nat, j + d = c → wY_edges_8 post fn (nI n) (nI c) nr nb gu gv gw gd gx gy gz gb gt gf (d + 1) (nI (ed_s (fun l => gm_cn (fun k => ed_R Q n c f k l) l) j)) (nI j) := by
  intro d
  induction d with
  | zero =>
    intro k hk
    have : k = c := by omega
    subst this
    exact br_t (nI_le (Nat.le_refl _) (by omega)) h
  | succ d ih =>
    intro j hj
    refine br_f (nI_ge (by omega) (by omega)) ⟨j + 1, ?_⟩
    have := yw_ed18 (post := post) (J := wY_edges_8 post fn (nI n) (nI c) nr nb gu gv gw gd gx gy gz gb gt gf (d + 1)) (fn := fn) (nr := nr) (nb := nb) (gx := gx) (gy := gy) (gz := gz) (gb := gb) (gf := gf)
      (B := ed_s (fun l => gm_cn (fun k => ed_R Q n c f k l) l) j) hd hc hn hok hQ hT (show j < c by omega) (ih (j + 1) (by omega)) j 0 (by omega)
    exact this
theorem ed_eq : ed_s (fun k => gm_cn (ed_R Q n c f k) c) c = ed_s (fun l => gm_cn (fun k => ed_R Q n c f k l) l) c := by
  rw [ed_swap]
  exact ed_cg c (fun l hl => ed_ext c (by omega) (fun i h1 h2 z => by have := z.1; omega))
theorem i_vc_edges {k : Nat} {u : SX} {v : SY} (I : i_Rel k u v) (hk : k + 3 ≤ 1536) : wpX_edges (fun r u' => wpY_edges (fun r' v' => r' = r ∧ i_Rel (k + 3) u' v') v) u := by
  obtain ⟨fc, ff, pl, co, tt, st⟩ := u
  obtain ⟨fn, fp, fk, nr, nb, gu, gv, gw, gd, gx, gy, gz, gb, gt, gf⟩ := v
  obtain ⟨n, M, D, e1, e2, hR⟩ := I
  dsimp only at e1 e2 hR
  subst e1 e2
  have hn8 := hR.1.1
  unfold wpX_edges
  refine xw_body hR (fun c f co tt hc hL hC hT => ?_)
  refine ⟨c + 1, xw_ed8 hc (by omega) hT ?_ c 0 (by omega)⟩
  unfold wpY_edges
  refine yw_find2 hR hL (fun gu gv gw gd gx gy gz gb gt g1 g2 g3 => ?_)
  refine ⟨c + 1, yw_ed8 (dm_of hR hL) hc (by omega) (fun i hi => (rl_Q_ok hR.1 i hi).1) g1 g3 ⟨?_, n, M, D, rfl, rfl, hR⟩ c 0 (by omega)⟩
  rw [ed_eq]

/-- faces -/
def fa_S (Q : Nat → gm_V) (c : Nat) (f : Nat → gm_V) (p q : Nat) : Prop := ∀ k, k < c → (gm_ev (Q p) (f k) = 0 ↔ gm_ev (Q q) (f k) = 0)
def fa_F (Q : Nat → gm_V) (c : Nat) (f : Nat → gm_V) (p : Nat) : Prop := 3 ≤ gm_cn (fun k => gm_ev (Q p) (f k) = 0) c ∧ ¬ ∃ q, q < p ∧ fa_S Q c f p q
theorem xw_hs2 {post : Int32 → Prop} {p q : Nat} (hc : c ≤ 32) (hn : n ≤ 16) (hT : xw_T tt c n Q f) (hp : p < n) (hq : q < n) (h1 : fa_S Q c f p q → post 1) (h0 : ¬ fa_S Q c f p q → post 0) :
    ∀ d k : Nat, k + d = c → (∀ j, j < k → (gm_ev (Q p) (f j) = 0 ↔ gm_ev (Q q) (f j) = 0)) → wX_haveSameCorners_2 post (nI p) (nI q) fc (nI c) pl co tt st (d + 1) (nI k) := by
  intro d
  induction d with
  | zero =>
    intro k hk hI
    have : k = c := by omega
    subst this
    exact br_t (nI_le (Nat.le_refl _) (by omega)) (h1 hI)
  | succ d ih =>
    intro k hk hI
    obtain ⟨m, hm, hms⟩ := hT k (by omega)
    have bp := nx_bit1 hms hn hp
    have bq := nx_bit1 hms hn hq
    have v := vp_in_nI (n := k) (N := 32) (by omega) (by omega)
    refine br_f (nI_ge (by omega) (by omega)) ⟨v, v, ?_⟩
    rw [nI_clamp (by omega), hm]
    have nx : (gm_ev (Q p) (f k) = 0 ↔ gm_ev (Q q) (f k) = 0) → ∀ z, z = nI k + 1 → wX_haveSameCorners_2 post (nI p) (nI q) fc (nI c) pl co tt st (d + 1) z := by
      intro g
      refine nm_r (nI_1 k) (ih (k + 1) (by omega) (fun j hj => ?_))
      by_cases e : j = k
      · subst e; exact g
      · exact hI j (by omega)
    by_cases a : gm_ev (Q p) (f k) = 0
    · by_cases b : gm_ev (Q q) (f k) = 0
      · rw [bp.1 a, bq.1 b]
        exact br_t rfl (nx ⟨fun _ => b, fun _ => a⟩)
      · rw [bp.1 a, bq.2 b]
        exact br_f (by decide) (h0 (fun z => b ((z k (by omega)).mp a)))
    · by_cases b : gm_ev (Q q) (f k) = 0
      · rw [bp.2 a, bq.1 b]
        exact br_f (by decide) (h0 (fun z => a ((z k (by omega)).mpr b)))
      · rw [bp.2 a, bq.2 b]
        exact br_t rfl (nx ⟨fun z => absurd z a, fun z => absurd z b⟩)
theorem xw_fe2 {post : Int32 → Prop} {p : Nat} (hc : c ≤ 32) (hn : n ≤ 16) (hT : xw_T tt c n Q f) (hp : p < n) (h1 : (∃ q, q < p ∧ fa_S Q c f p q) → post 1) (h0 : ¬ (∃ q, q < p ∧ fa_S Q c f p q) → post 0) :
    ∀ d q : Nat, q + d = p → (∀ j, j < q → ¬ fa_S Q c f p j) → wX_isFaceOfEarlierPlane_2 post (nI p) fc (nI c) pl co tt st (d + 1) (nI q) := by
  intro d
  induction d with
  | zero =>
    intro q hq hI
    have : q = p := by omega
    subst this
    exact br_t (nI_le (Nat.le_refl _) (by omega)) (h0 (fun hx => by obtain ⟨j, hj, g⟩ := hx; exact hI j hj g))
  | succ d ih =>
    intro q hq hI
    refine br_f (nI_ge (by omega) (by omega)) ⟨c + 1, xw_hs2 hc hn hT hp (by omega) (fun g => ?_) (fun g => ?_) c 0 (by omega) (fun j hj => by omega)⟩
    · exact br_f (by decide) (h1 ⟨q, by omega, g⟩)
    · refine br_t rfl (nm_r (nI_1 q) (ih (q + 1) (by omega) (fun j hj => ?_)))
      by_cases e : j = q
      · subst e; exact g
      · exact hI j (by omega)
theorem gm_cn_bd (P : Nat → Prop) : ∀ c : Nat, gm_cn P c ≤ c := by
  intro c
  induction c with
  | zero => exact Nat.le_refl _
  | succ c ih =>
    by_cases e : P c
    · rw [gm_cn_t e]; omega
    · rw [gm_cn_f e]; omega
theorem xw_fa29 {post : Int32 → SX → Prop} (hc : c ≤ 32) (hn8 : n ≤ 8) (hT : xw_T tt c (6 + n) Q f) (h : post (nI (gm_cn (fa_F Q c f) (6 + n))) (nI n, nI c, pl, co, tt, st)) :
    ∀ d p : Nat, p + d = 6 + n → wX_faces_29 post (nI n) (nI c) pl co tt st (d + 1) (nI (gm_cn (fa_F Q c f) p)) (nI p) := by
  intro d
  induction d with
  | zero =>
    intro p hp
    have : p = 6 + n := by omega
    subst this
    unfold wX_faces_29
    rw [xw_66]
    exact br_t (nI_le (Nat.le_refl _) (by omega)) h
  | succ d ih =>
    intro p hp
    have nx := ih (p + 1) (by omega)
    have hb := gm_cn_bd (fun k => gm_ev (Q p) (f k) = 0) c
    unfold wX_faces_29
    rw [xw_66]
    refine br_f (nI_ge (by omega) (by omega)) (xw_cin hT hc (by omega) (by omega) ?_)
    by_cases e : gm_cn (fun k => gm_ev (Q p) (f k) = 0) c < 3
    · rw [gm_cn_f (P := fa_F Q c f) (fun z => by have := z.1; omega)] at nx
      exact br_t (nI_lt (b := 3) e (by decide)) (nm_r (nI_1 p) nx)
    · refine br_f (nI_nlt (b := 3) (by omega) (by omega)) ⟨p + 1, xw_fe2 hc (by omega) hT (by omega) (fun g => ?_) (fun g => ?_) p 0 (by omega) (fun j hj => by omega)⟩
      · rw [gm_cn_f (P := fa_F Q c f) (fun z => z.2 g)] at nx
        exact br_f (by decide) (nm_r (nI_1 p) nx)
      · rw [gm_cn_t (P := fa_F Q c f) ⟨by omega, g⟩] at nx
        exact br_t rfl (nm_r (nI_1 _) (nm_r (nI_1 p) nx))
theorem nx_Lp {p : Nat} (hp : p < 63) : (1 : Int64) <<< ((nI p).toInt64 &&& 63) = lN (2 ^ p) := by
  rw [show (1 : Int64) = lN 1 from rfl, wb_shl 1 (by omega), Nat.one_mul]
theorem yw_ip5 {post : Int64 → Prop} {s : Nat} (hT : xw_T gt c n Q f) (hc : c ≤ 32) (hn : n ≤ 16) (hs : s < n) (h : ∀ w, nu_ms w c (fun k => gm_ev (Q s) (f k) = 0) → post (lN w)) :
    ∀ d k w : Nat, k + d = c → nu_ms w k (fun k => gm_ev (Q s) (f k) = 0) → wY_inPlane_5 post (nI s) fn fp (nI c) nr nb gu gv gw gd gx gy gz gb gt gf (d + 1) (lN w) (nI k) := by
  intro d
  induction d with
  | zero =>
    intro k w hk hw
    have : k = c := by omega
    subst this
    exact br_t (nI_le (Nat.le_refl _) (by omega)) (h w hw)
  | succ d ih =>
    intro k w hk hw
    obtain ⟨m, hm, hms⟩ := hT k (by omega)
    have hb := nx_bit1 hms hn hs
    have l1 := nu_ms_lt hw
    have h32 : 2 ^ k ≤ 2 ^ 32 := Nat.pow_le_pow_right (by decide) (by omega)
    refine br_f (nI_ge (by omega) (by omega)) ⟨vp_in_nI (by omega) (by omega), ?_⟩
    rw [nI_clamp (by omega), hm]
    by_cases e : gm_ev (Q s) (f k) = 0
    · refine br_t (hb.1 e) ?_
      rw [nx_Lp (by omega), wb_or (by omega) (by omega)]
      exact nm_e (nm_r (nI_1 k) (ih (k + 1) _ (by omega) (nu_ms_t hw e)))
    · exact br_f (by rw [hb.2 e]; decide) (nm_r (nI_1 k) (ih (k + 1) w (by omega) (nu_ms_f hw e)))
theorem yw_ip {post : Int64 → Prop} {s : Nat} (hT : xw_T gt c n Q f) (hc : c ≤ 32) (hn : n ≤ 16) (hs : s < n) (h : ∀ w, nu_ms w c (fun k => gm_ev (Q s) (f k) = 0) → post (lN w)) :
    wpY_inPlane post (fn, fp, nI c, nr, nb, gu, gv, gw, gd, gx, gy, gz, gb, gt, gf) (nI s) := ⟨c + 1, yw_ip5 hT hc hn hs h c 0 0 (by omega) (nu_ms_0 _)⟩
theorem yw_fa60 {post : Int32 → SY → Prop} {J : Int32 → Int32 → Prop} {s w : Nat} {x2 : Int32} {A : Prop} (hT : xw_T gt c n Q f) (hc : c ≤ 32) (hn : n ≤ 16) (hs : s < n) (hw : nu_ms w c (fun k => gm_ev (Q s) (f k) = 0))
    (h1 : A → (¬ ∃ q, q < s ∧ fa_S Q c f s q) → J (x2 + 1) (nI (s + 1))) (h0 : ¬ (A ∧ ¬ ∃ q, q < s ∧ fa_S Q c f s q) → J x2 (nI (s + 1))) :
    ∀ (d r : Nat) (x6 : Int32), r + d = s → ((x6 = 1 ∧ A ∧ ∀ j, j < r → ¬ fa_S Q c f s j) ∨ (x6 = 0 ∧ ¬ (A ∧ ∀ j, j < r → ¬ fa_S Q c f s j))) → wY_faces_60 post J x2 (nI s) (lN w) fn (nI n) (nI c) nr nb gu gv gw gd gx gy gz gb gt gf (d + 1) x6 (nI r) := by
  intro d
  induction d with
  | zero =>
    intro r x6 hr hI
    have : r = s := by omega
    subst this
    refine br_t (nI_le (Nat.le_refl _) (by omega)) ?_
    rcases hI with ⟨rfl, a, g⟩ | ⟨rfl, g⟩
    · exact br_f (by decide) (nm_e (nm_r (nI_1 r) (h1 a (fun hx => by obtain ⟨q, hq, z⟩ := hx; exact g q hq z))))
    · exact br_t rfl (nm_r (nI_1 r) (h0 (fun z => g ⟨z.1, fun j hj y => z.2 ⟨j, hj, y⟩⟩)))
  | succ d ih =>
    intro r x6 hr hI
    have l1 := nu_ms_lt hw
    have h32 : 2 ^ c ≤ 2 ^ 32 := Nat.pow_le_pow_right (by decide) (by omega)
    refine br_f (nI_ge (by omega) (by omega)) (yw_ip hT hc hn (by omega) (fun w' hw' => ?_))
    have l2 := nu_ms_lt hw'
    refine br_c (fun e => ?_) (fun e => ?_)
    · have e' : w' = w := (pk_lEQ (by omega) (by omega)).mp e
      subst e'
      have hS : fa_S Q c f s r := by
        intro k hk
        have a := hw k
        have b := hw' k
        constructor
        · intro z; exact (b.mp (a.mpr ⟨hk, z⟩)).2
        · intro z; exact (a.mp (b.mpr ⟨hk, z⟩)).2
      exact nm_r (nI_1 r) (ih (r + 1) 0 (by omega) (.inr ⟨rfl, fun z => z.2 r (by omega) hS⟩))
    · have hS : ¬ fa_S Q c f s r := by
        intro z
        apply e
        rw [nu_ms_u hw' (nu_ms_cg (fun k hk => z k hk) hw)]
      refine nm_r (nI_1 r) (ih (r + 1) x6 (by omega) ?_)
      rcases hI with ⟨e1, a, g⟩ | ⟨e1, g⟩
      · refine .inl ⟨e1, a, fun j hj => ?_⟩
        by_cases e2 : j = r
        · subst e2; exact hS
        · exact g j (by omega)
      · exact .inr ⟨e1, fun z => g ⟨z.1, fun j hj => z.2 j (by omega)⟩⟩
/-- a plane's corners: three of them, or not a face -/
theorem fa_rank (h : dm_L Q n c f) (hc : c ≤ 32) {s r : Nat} (hs : s < n) (hx : ∃ k, k < c ∧ gm_ev (Q s) (f k) = 0)
    (hr : rk_is Q (fun i => i < n ∧ ∀ k, k < c → gm_ev (Q s) (f k) = 0 → gm_ev (Q i) (f k) = 0) r) : r = 1 ↔ 3 ≤ gm_cn (fun k => gm_ev (Q s) (f k) = 0) c := by
  obtain ⟨g, g1, g2, g3⟩ := wh_enum (fun k => gm_ev (Q s) (f k) = 0) c
  generalize gm_cn (fun k => gm_ev (Q s) (f k) = 0) c = N at *
  obtain ⟨k0, hk0, e0⟩ := hx
  obtain ⟨t0, ht0, _⟩ := g3 k0 hk0 e0
  by_cases c3 : 3 ≤ N
  · have a0 := g1 0 (by omega)
    have a1 := g1 1 (by omega)
    have a2 := g1 2 (by omega)
    have hl : r < 2 := rk_c3 (ac := fun p => p < n) (h.1.1 _ a0.1).1 (h.1.1 _ a1.1).1 (h.1.1 _ a2.1).1 (dm_npr h a0.1 a1.1 (g2 0 1 (by omega) (by omega))) (dm_npr h a1.1 a2.1 (g2 1 2 (by omega) (by omega)))
      (dm_npr h a2.1 a0.1 (fun z => g2 0 2 (by omega) (by omega) z.symm)) (fun i hi => ⟨hi.2 _ a0.1 a0.2, hi.2 _ a1.1 a1.2, hi.2 _ a2.1 a2.2⟩) hr
    have h1 : ¬ r = 0 := fun z => (rk_0 hr).mp z s ⟨hs, fun k hk e => e⟩
    exact ⟨fun _ => c3, fun _ => by omega⟩
  · refine ⟨fun e => ?_, fun e => absurd e c3⟩
    exfalso
    have : N = 1 ∨ N = 2 := by omega
    rcases this with z | z
    · subst z
      have a0 := g1 0 (by omega)
      have : r = 3 := rk_c1 (ac := fun p => p < n) (v := f (g 0)) h.2.2 (h.1.1 _ a0.1).1 (rk_cg (fun i => by
        constructor
        · intro a; exact ⟨a.1, a.2 _ a0.1 a0.2⟩
        · intro a
          refine ⟨a.1, fun k hk e => ?_⟩
          obtain ⟨t, ht, et⟩ := g3 k hk e
          have : t = 0 := by omega
          subst this
          rw [← et]; exact a.2) hr)
      omega
    · subst z
      have a0 := g1 0 (by omega)
      have a1 := g1 1 (by omega)
      have hr2 : rk_is Q (fun i => i < n ∧ (gm_ev (Q i) (f (g 0)) = 0 ∧ gm_ev (Q i) (f (g 1)) = 0)) r := rk_cg (fun i => by
        constructor
        · intro a; exact ⟨a.1, a.2 _ a0.1 a0.2, a.2 _ a1.1 a1.2⟩
        · intro a
          refine ⟨a.1, fun k hk e => ?_⟩
          obtain ⟨t, ht, et⟩ := g3 k hk e
          have : t = 0 ∨ t = 1 := by omega
          rcases this with z | z <;> subst z
          · rw [← et]; exact a.2.1
          · rw [← et]; exact a.2.2) hr
      have : r = 2 := (nb_rank h a0.1 a1.1 (g2 0 1 (by omega) (by omega)) hr2).mpr (fun m hm m1 m2 hx => by
        have em := hx s hs ⟨a0.2, a1.2⟩
        obtain ⟨t, ht, et⟩ := g3 m hm em
        have : t = 0 ∨ t = 1 := by omega
        rcases this with z | z <;> subst z
        · exact m1 et.symm
        · exact m2 et.symm)
      omega
theorem yw_fa25 {post : Int32 → SY → Prop} (hd : dm_L Q n c f) (hc : c ≤ 32) (hn : n ≤ 16) (hok : ∀ i, i < n → gm_ok (Q i)) (hQ : yw_A gu gv gw gd n Q) (hT : xw_T gt c n Q f) (h : post (nI (gm_cn (fa_F Q c f) n)) (fn, nI n, nI c, nr, nb, gu, gv, gw, gd, gx, gy, gz, gb, gt, gf)) :
    ∀ d s : Nat, s + d = n → wY_faces_25 post fn (nI n) (nI c) nr nb gu gv gw gd gx gy gz gb gt gf (d + 1) (nI (gm_cn (fa_F Q c f) s)) (nI s) := by
  intro d
  induction d with
  | zero =>
    intro s hs
    have : s = n := by omega
    subst this
    exact br_t (nI_le (Nat.le_refl _) (by omega)) h
  | succ d ih =>
    intro s hs
    have nx := ih (s + 1) (by omega)
    have K : ∀ (w : Nat) (x6 : Int32), nu_ms w c (fun k => gm_ev (Q s) (f k) = 0) → ((x6 = 1 ∧ 3 ≤ gm_cn (fun k => gm_ev (Q s) (f k) = 0) c) ∨ (x6 = 0 ∧ ¬ 3 ≤ gm_cn (fun k => gm_ev (Q s) (f k) = 0) c)) →
        wY_faces_60 post (wY_faces_25 post fn (nI n) (nI c) nr nb gu gv gw gd gx gy gz gb gt gf (d + 1)) (nI (gm_cn (fa_F Q c f) s)) (nI s) (lN w) fn (nI n) (nI c) nr nb gu gv gw gd gx gy gz gb gt gf (s + 1) x6 (nI 0) := by
      intro w x6 hw hx
      refine yw_fa60 (A := 3 ≤ gm_cn (fun k => gm_ev (Q s) (f k) = 0) c) hT hc hn (by omega) hw (fun a b => ?_) (fun a => ?_) s 0 x6 (by omega) ?_
      · rw [gm_cn_t (P := fa_F Q c f) ⟨a, b⟩] at nx
        rw [nI_1]; exact nx
      · rw [gm_cn_f (P := fa_F Q c f) (fun z => a z)] at nx
        exact nx
      · rcases hx with ⟨a, b⟩ | ⟨a, b⟩
        · exact .inl ⟨a, b, fun j hj => by omega⟩
        · exact .inr ⟨a, fun z => b z.1⟩
    refine br_f (nI_ge (by omega) (by omega)) (yw_ip hT hc hn (by omega) (fun w hw => ?_))
    refine yw_dimOf hQ hn hok hT hc hw (fun z => ?_) (fun hx r hr => ?_)
    · refine br_f (by decide) ⟨s + 1, K w 0 hw (.inr ⟨rfl, ?_⟩)⟩
      rw [sh_cn_0 c z]; omega
    · have hf := fa_rank hd hc (by omega) hx hr
      have r3 := rk_le3 hr
      by_cases e : r = 1
      · exact br_t (by rw [e]; decide) ⟨s + 1, K w 1 hw (.inl ⟨rfl, hf.mp e⟩)⟩
      · refine br_f (fun z => e ?_) ⟨s + 1, K w 0 hw (.inr ⟨rfl, fun z => e (hf.mpr z)⟩)⟩
        have : r = 0 ∨ r = 1 ∨ r = 2 ∨ r = 3 := by omega
        rcases this with y | y | y | y <;> subst y
        · exact absurd z (by decide)
        · rfl
        · exact absurd z (by decide)
        · exact absurd z (by decide)
theorem i_vc_faces {k : Nat} {u : SX} {v : SY} (I : i_Rel k u v) (hk : k + 3 ≤ 1536) : wpX_faces (fun r u' => wpY_faces (fun r' v' => r' = r ∧ i_Rel (k + 3) u' v') v) u := by
  obtain ⟨fc, ff, pl, co, tt, st⟩ := u
  obtain ⟨fn, fp, fk, nr, nb, gu, gv, gw, gd, gx, gy, gz, gb, gt, gf⟩ := v
  obtain ⟨n, M, D, e1, e2, hR⟩ := I
  dsimp only at e1 e2 hR
  subst e1 e2
  have hn8 := hR.1.1
  unfold wpX_faces
  refine xw_body hR (fun c f co tt hc hL hC hT => ?_)
  refine xw_dim hc (by omega) hT (fun d hd => ?_)
  refine br_c (fun e => ?_) (fun e => br_c (fun g => ?_) (fun g => ?_))
  · refine ⟨6 + n + 1, xw_fa29 hc hn8 hT ?_ (6 + n) 0 (by omega)⟩
    unfold wpY_faces
    refine yw_dim hR hL hc hd (fun gu gv gw gd gx gy gz gb gt g1 g3 => ?_)
    exact br_t e ⟨6 + n + 1, yw_fa25 (dm_of hR hL) hc (by omega) (fun i hi => (rl_Q_ok hR.1 i hi).1) g1 g3 ⟨rfl, n, M, D, rfl, rfl, hR⟩ (6 + n) 0 (by omega)⟩
  · unfold wpY_faces
    exact yw_dim hR hL hc hd (fun gu gv gw gd gx gy gz gb gt g1 g3 => br_f e (br_t g ⟨rfl, n, M, D, rfl, rfl, hR⟩))
  · unfold wpY_faces
    exact yw_dim hR hL hc hd (fun gu gv gw gd gx gy gz gb gt g1 g3 => br_f e (br_f g ⟨rfl, n, M, D, rfl, rfl, hR⟩))
end
