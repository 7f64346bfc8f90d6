/-! drop, corners, top, bottom, on -/
section
variable {fc ff : Int32} {pl co tt st : Nat → Int32} {Q f : Nat → gm_V} {n c : Nat} {M : Nat → Nat} {D : Nat → Int}
variable {fn fp fk : Int32} {nr nb gu gv gw gd gx gy gz gb gt gf : Nat → Int32}
theorem xw_66 (k : Nat) : (6 : Int32) + nI k = nI (6 + k) := nI_add 6 k
theorem nI_m1 {p : Nat} (hp : p < 2 ^ 31) : ¬ nI p = -1 := fun e => absurd (e ▸ nI_pos' hp : (0 : Int32) ≤ -1) (by decide)
theorem xw_L0 (hn : n ≤ 16) : xw_L n (-1) (fun _ => False) := fun p hp => ⟨fun e => nI_m1 (by omega) e, fun e => e.elim⟩
theorem xw_Ll {l : Nat} (hn : n ≤ 16) (hl : l < 16) : xw_L n (nI l) (fun p => p = l) := fun p hp => nI_eq (by omega) (by omega)
theorem xw_ac0 (n : Nat) : (fun p => p < n ∧ ¬ False) = (fun p => p < n) := by
  funext p
  simp
theorem xw_body {post : SX → Prop} (hR : rl_R n M D pl nr nb)
    (h : ∀ c f co tt, c ≤ 32 → ls_L (gm_Vt (rl_Q M D) (fun p => p < 6 + n)) c f → xw_C co c f → xw_T tt c (6 + n) (rl_Q M D) f → post (nI n, nI c, pl, co, tt, st)) :
    wpX_findBodyCorners post (nI n, ff, pl, co, tt, st) := by
  have hn8 := hR.1.1
  unfold wpX_findBodyCorners
  dsimp only
  rw [xw_66]
  refine xw_find (xw_L0 (by omega)) hR.2.2 (by omega) (fun i hi => (rl_Q_ok hR.1 i hi).1) (fun c f co tt a b d e => ?_)
  rw [xw_ac0] at b
  exact h c f co tt a b d e
theorem yw_A_eq {a b d e : Nat → Int32} {c c' : Nat} {f f' : Nat → gm_V} (h : yw_A a b d e c' f') (h1 : c = c') (h2 : ∀ i, i < c → f i = f' i) : yw_A a b d e c f := by
  subst h1
  exact yw_A_cg h (fun k hk => (h2 k hk).symm)
theorem xw_T_eq {t : Nat → Int32} {c c' m : Nat} {f f' : Nat → gm_V} (h : xw_T t c' m Q f') (h1 : c = c') (h2 : ∀ i, i < c → f i = f' i) : xw_T t c m Q f := by
  subst h1
  intro k hk
  rw [h2 k hk]
  exact h k hk
theorem yw_fc2 {post : SY → Prop} (hQ : yw_A gu gv gw gd n Q) (hn : n ≤ 16) (hok : ∀ i, i < n → gm_ok (Q i)) (hL : ls_L (gm_Vt Q (fun p => p < n)) c f)
    (h : ∀ gx gy gz gb gt, yw_A gx gy gz gb c f → xw_T gt c n Q f → post (fn, nI n, nI c, nr, nb, gu, gv, gw, gd, gx, gy, gz, gb, gt, gf)) : wpY_findCorners post (fn, nI n, fk, nr, nb, gu, gv, gw, gd, gx, gy, gz, gb, gt, gf) := by
  refine yw_fc hQ hn hok (fun c' f' gx gy gz gb gt a b d e => ?_)
  obtain ⟨e1, e2⟩ := ls_u (fun p hp => hp.1.1) hL b
  have := h gx gy gz gb gt (yw_A_eq d e1 e2) (xw_T_eq e e1 e2)
  rw [e1] at this
  exact this
theorem yw_find2 {post : SY → Prop} (hR : rl_R n M D pl nr nb) (hL : ls_L (gm_Vt (rl_Q M D) (fun p => p < 6 + n)) c f)
    (h : ∀ gu gv gw gd gx gy gz gb gt, yw_A gu gv gw gd (6 + n) (rl_Q M D) → yw_A gx gy gz gb c f → xw_T gt c (6 + n) (rl_Q M D) f → post (nI n, nI (6 + n), nI c, nr, nb, gu, gv, gw, gd, gx, gy, gz, gb, gt, gf)) :
    wpY_find post (nI n, fp, fk, nr, nb, gu, gv, gw, gd, gx, gy, gz, gb, gt, gf) := by
  have hn8 := hR.1.1
  unfold wpY_find
  exact yw_set hR.1 hR.2.1 (fun gu gv gw gd g => yw_fc2 g (by omega) (fun i hi => (rl_Q_ok hR.1 i hi).1) hL (fun gx gy gz gb gt a b => h _ _ _ _ _ _ _ _ _ g a b))

theorem i_vc_corners {k : Nat} {u : SX} {v : SY} (I : i_Rel k u v) (hk : k + 3 ≤ 1536) : wpX_corners (fun r u' => wpY_corners (fun r' v' => r' = r ∧ i_Rel (k + 3) u' v') v) u := by
  obtain ⟨fc, ff, pl, co, tt, st⟩ := u
  obtain ⟨fn, fp, fk, nr, nb, gu, gv, gw, gd, gx, gy, gz, gb, gt, gf⟩ := v
  obtain ⟨n, M, D, e1, e2, hR⟩ := I
  dsimp only at e1 e2 hR
  subst e1 e2
  unfold wpX_corners
  refine xw_body hR (fun c f co tt hc hL hC hT => ?_)
  unfold wpY_corners
  exact yw_find2 hR hL (fun gu gv gw gd gx gy gz gb gt a b d => ⟨rfl, n, M, D, rfl, rfl, hR⟩)
theorem i_vc_top {k : Nat} {u : SX} {v : SY} (I : i_Rel k u v) (hk : k + 3 ≤ 1536) (v1 : Int32) (v2 : Int32) : wpX_top (fun r u' => wpY_top (fun r' v' => r' = r ∧ i_Rel (k + 3) u' v') v v1 v2) u v1 v2 := by
  obtain ⟨fc, ff, pl, co, tt, st⟩ := u
  obtain ⟨fn, fp, fk, nr, nb, gu, gv, gw, gd, gx, gy, gz, gb, gt, gf⟩ := v
  have I' := I
  obtain ⟨n, M, D, e1, e2, hR⟩ := I
  dsimp only at e1 e2 hR
  subst e1 e2
  unfold wpX_top
  refine xw_isA (fun a ha ea => ?_) (fun hx => ?_)
  · subst ea
    refine br_f (by decide) (xw_body hR (fun c f co tt hc hL hC hT => ?_))
    refine xw_isK (by omega) (fun j hj ej => ?_) (fun hx => ?_)
    · subst ej
      refine br_f (by decide) ?_
      rw [xw_4, nI_add, nI_clamp (by omega), xw_Ca hC hj (show a < 4 by omega)]
      refine ⟨vp_in_nI (by omega) (by omega), ?_⟩
      unfold wpY_top
      refine yw_ix (c := 3) (by omega) (by decide) (fun _ _ _ => br_f (by decide) ?_) (fun hx => absurd ⟨a, ha, rfl⟩ hx)
      refine yw_find2 hR hL (fun gu gv gw gd gx gy gz gb gt g1 g2 g3 => ?_)
      refine yw_ix (c := c) (by omega) rfl (fun _ _ _ => br_f (by decide) ?_) (fun hx => absurd ⟨j, hj, rfl⟩ hx)
      have vj := vp_in_nI (n := j) (N := 40) (by omega) (by omega)
      obtain ⟨y0, y1, y2, y3⟩ := g2 j hj
      have R : i_Rel (k + 3) (nI n, nI c, pl, co, tt, st) (nI n, nI (6 + n), nI c, nr, nb, gu, gv, gw, gd, gx, gy, gz, gb, gt, gf) := ⟨n, M, D, rfl, rfl, hR⟩
      rw [nI_clamp (by omega), y0, y1, y2]
      have : a = 0 ∨ a = 1 ∨ a = 2 := by omega
      rcases this with e | e | e
      · subst e; exact br_t rfl ⟨vj, rfl, R⟩
      · subst e; exact br_f (by decide) (br_t rfl ⟨vj, rfl, R⟩)
      · subst e; exact br_f (by decide) (br_f (by decide) ⟨vj, rfl, R⟩)
    · refine br_t rfl ?_
      unfold wpY_top
      refine yw_ix (c := 3) (by omega) (by decide) (fun _ _ _ => br_f (by decide) ?_) (fun hx => absurd ⟨a, ha, rfl⟩ hx)
      refine yw_find2 hR hL (fun gu gv gw gd gx gy gz gb gt g1 g2 g3 => ?_)
      exact yw_ix (c := c) (by omega) rfl (fun j hj ej => absurd ⟨j, hj, ej⟩ hx) (fun _ => br_t rfl ⟨rfl, n, M, D, rfl, rfl, hR⟩)
  · refine br_t rfl ?_
    unfold wpY_top
    exact yw_ix (c := 3) (by omega) (by decide) (fun j hj ej => absurd ⟨j, hj, ej⟩ hx) (fun _ => br_t rfl ⟨rfl, I'⟩)
theorem i_vc_bottom {k : Nat} {u : SX} {v : SY} (I : i_Rel k u v) (hk : k + 3 ≤ 1536) (v1 : Int32) : wpX_bottom (fun r u' => wpY_bottom (fun r' v' => r' = r ∧ i_Rel (k + 3) u' v') v v1) u v1 := by
  obtain ⟨fc, ff, pl, co, tt, st⟩ := u
  obtain ⟨fn, fp, fk, nr, nb, gu, gv, gw, gd, gx, gy, gz, gb, gt, gf⟩ := v
  obtain ⟨n, M, D, e1, e2, hR⟩ := I
  dsimp only at e1 e2 hR
  subst e1 e2
  unfold wpX_bottom
  refine xw_body hR (fun c f co tt hc hL hC hT => ?_)
  refine xw_isK (by omega) (fun j hj ej => ?_) (fun hx => ?_)
  · subst ej
    refine br_f (by decide) ?_
    rw [xw_4, xw_a3, nI_clamp (by omega), (hC j hj).2.2.2]
    refine ⟨vp_in_nI (by omega) (by omega), ?_⟩
    unfold wpY_bottom
    refine yw_find2 hR hL (fun gu gv gw gd gx gy gz gb gt g1 g2 g3 => ?_)
    refine yw_ix (c := c) (by omega) rfl (fun _ _ _ => br_f (by decide) ?_) (fun hx => absurd ⟨j, hj, rfl⟩ hx)
    rw [nI_clamp (by omega), (g2 j hj).2.2.2]
    exact ⟨vp_in_nI (by omega) (by omega), rfl, n, M, D, rfl, rfl, hR⟩
  · refine br_t rfl ?_
    unfold wpY_bottom
    refine yw_find2 hR hL (fun gu gv gw gd gx gy gz gb gt g1 g2 g3 => ?_)
    exact yw_ix (c := c) (by omega) rfl (fun j hj ej => absurd ⟨j, hj, ej⟩ hx) (fun _ => br_t rfl ⟨rfl, n, M, D, rfl, rfl, hR⟩)

/-- a bit of a mask -/
theorem nx_tb {m p : Nat} (hm : m < 2 ^ 31) (hp : p < 31) : (nI m >>> (nI p &&& 31)) &&& 1 = nI (m / 2 ^ p % 2) := by
  rw [pk_shrN hm (nI p &&& 31) p (s_l p (by omega))]
  have h1 : m / 2 ^ p ≤ m := Nat.div_le_self _ _
  rw [pk_andN (by omega) 1 (by decide)]
theorem nx_bit1 {m n p : Nat} {P : Nat → Prop} (h : nu_ms m n P) (hn : n ≤ 16) (hp : p < n) :
    (P p → (nI m >>> (nI p &&& 31)) &&& 1 = 1) ∧ (¬ P p → (nI m >>> (nI p &&& 31)) &&& 1 = 0) := by
  have hl := nu_ms_lt h
  have h16 : 2 ^ n ≤ 2 ^ 16 := Nat.pow_le_pow_right (by decide) hn
  rw [nx_tb (by omega) (by omega)]
  have hb := h p
  rw [Nat.testBit_eq_decide_div_mod_eq, decide_eq_true_eq] at hb
  refine ⟨fun a => ?_, fun a => ?_⟩
  · rw [hb.mpr ⟨hp, a⟩]; rfl
  · have : m / 2 ^ p % 2 = 0 := by
      have : ¬ m / 2 ^ p % 2 = 1 := fun z => a (hb.mp z).2
      omega
    rw [this]; rfl
theorem xw_cin4 {post : Int32 → Prop} {p : Nat} (hT : xw_T tt c n Q f) (hc : c ≤ 32) (hn : n ≤ 16) (hp : p < n) (h : post (nI (gm_cn (fun k => gm_ev (Q p) (f k) = 0) c))) :
    ∀ d k : Nat, k + d = c → wX_cornersIn_4 post (nI p) fc (nI c) pl co tt st (d + 1) (nI (gm_cn (fun k => gm_ev (Q p) (f k) = 0) k)) (nI k) := by
  intro d
  induction d with
  | zero =>
    intro k hk
    have : k = c := by omega
    subst this
    exact br_t (nI_le (Nat.le_refl _) (by omega)) h
  | succ d ih =>
    intro k hk
    obtain ⟨m, hm, hs⟩ := hT k (by omega)
    have hb := nx_bit1 hs hn hp
    refine br_f (nI_ge (by omega) (by omega)) ⟨vp_in_nI (by omega) (by omega), ?_⟩
    rw [nI_clamp (by omega), hm]
    by_cases e : gm_ev (Q p) (f k) = 0
    · rw [hb.1 e]
      refine nm_r (nI_1 _) (nm_r (nI_1 k) ?_)
      rw [← gm_cn_t (P := fun k => gm_ev (Q p) (f k) = 0) e]
      exact ih (k + 1) (by omega)
    · rw [hb.2 e]
      refine nm_r (Int32.add_zero _) (nm_r (nI_1 k) ?_)
      rw [← gm_cn_f (P := fun k => gm_ev (Q p) (f k) = 0) e]
      exact ih (k + 1) (by omega)
theorem xw_cin {post : Int32 → Prop} {p : Nat} (hT : xw_T tt c n Q f) (hc : c ≤ 32) (hn : n ≤ 16) (hp : p < n) (h : post (nI (gm_cn (fun k => gm_ev (Q p) (f k) = 0) c))) :
    wpX_cornersIn post (fc, nI c, pl, co, tt, st) (nI p) := ⟨c + 1, xw_cin4 hT hc hn hp h c 0 (by omega)⟩
theorem yw_on26 {post : Int32 → SY → Prop} {l : Nat} (hT : xw_T gt c n Q f) (hc : c ≤ 32) (hn : n ≤ 16) (hp : 6 + l < n) (h : post (nI (gm_cn (fun k => gm_ev (Q (6 + l)) (f k) = 0) c)) (fn, fp, nI c, nr, nb, gu, gv, gw, gd, gx, gy, gz, gb, gt, gf)) :
    ∀ d k : Nat, k + d = c → wY_on_26 post (nI l) fn fp (nI c) nr nb gu gv gw gd gx gy gz gb gt gf (d + 1) (nI (gm_cn (fun k => gm_ev (Q (6 + l)) (f k) = 0) k)) (nI k) := by
  intro d
  induction d with
  | zero =>
    intro k hk
    have : k = c := by omega
    subst this
    exact br_t (nI_le (Nat.le_refl _) (by omega)) h
  | succ d ih =>
    intro k hk
    obtain ⟨m, hm, hs⟩ := hT k (by omega)
    have hb := nx_bit1 hs hn hp
    refine br_f (nI_ge (by omega) (by omega)) ⟨vp_in_nI (by omega) (by omega), ?_⟩
    rw [nI_clamp (by omega), hm, xw_66]
    by_cases e : gm_ev (Q (6 + l)) (f k) = 0
    · rw [hb.1 e]
      refine br_t rfl (nm_r (nI_1 _) (nm_r (nI_1 k) ?_))
      rw [← gm_cn_t (P := fun k => gm_ev (Q (6 + l)) (f k) = 0) e]
      exact ih (k + 1) (by omega)
    · rw [hb.2 e]
      refine br_f (by decide) (nm_r (nI_1 k) ?_)
      rw [← gm_cn_f (P := fun k => gm_ev (Q (6 + l)) (f k) = 0) e]
      exact ih (k + 1) (by omega)
theorem i_vc_on {k : Nat} {u : SX} {v : SY} (I : i_Rel k u v) (hk : k + 3 ≤ 1536) (v1 : Int32) : wpX_on (fun r u' => wpY_on (fun r' v' => r' = r ∧ i_Rel (k + 3) u' v') v v1) u v1 := by
  obtain ⟨fc, ff, pl, co, tt, st⟩ := u
  obtain ⟨fn, fp, fk, nr, nb, gu, gv, gw, gd, gx, gy, gz, gb, gt, gf⟩ := v
  have I' := I
  obtain ⟨n, M, D, e1, e2, hR⟩ := I
  dsimp only at e1 e2 hR
  subst e1 e2
  have hn8 := hR.1.1
  unfold wpX_on
  refine xw_isC (by omega) (fun l hl el => ?_) (fun hx => ?_)
  · subst el
    refine br_f (by decide) (xw_body hR (fun c f co tt hc hL hC hT => ?_))
    dsimp only
    rw [xw_66]
    refine xw_cin hT hc (by omega) (by omega) ?_
    unfold wpY_on
    refine yw_ix (c := n) (by omega) rfl (fun _ _ _ => br_f (by decide) ?_) (fun hx => absurd ⟨l, hl, rfl⟩ hx)
    refine yw_find2 hR hL (fun gu gv gw gd gx gy gz gb gt g1 g2 g3 => ?_)
    exact ⟨c + 1, yw_on26 g3 hc (by omega) (by omega) ⟨rfl, n, M, D, rfl, rfl, hR⟩ c 0 (by omega)⟩
  · refine br_t rfl ?_
    unfold wpY_on
    exact yw_ix (c := n) (by omega) rfl (fun j hj ej => absurd ⟨j, hj, ej⟩ hx) (fun _ => br_t rfl ⟨rfl, I'⟩)
end
