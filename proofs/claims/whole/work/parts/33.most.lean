/-! mostTop, mostBottom -/
section
variable {fc ff : Int32} {pl co tt st : Nat → Int32} {Q f : Nat → gm_V} {n c : Nat} {M : Nat → Nat} {D : Nat → Int}
variable {fn fp fk : Int32} {nr nb gu gv gw gd gx gy gz gb gt gf : Nat → Int32}
def mo_s (q p : gm_V) : Nat → Int
  | 0 => 0
  | t + 1 => mo_s q p t + gm_c q t * gm_c p t
theorem mo_s3 (m : Nat) (p : gm_V) : mo_s (rl_ct m 0) p 3 = gm_ev (rl_ct m 0) p := by
  simp only [mo_s, gm_c, gm_ev, rl_ct]
  grind
theorem xw_val5 {post : Int32 → Prop} {m k : Nat} (hM : m ≤ 728) (hC : xw_C co c f) (hc : c ≤ 32) (hk : k < c) (h : post (nu_I (gm_ev (rl_ct m 0) (f k)))) :
    ∀ d t : Nat, t + d = 3 → wX_valueTop_5 post (nI m) (nI k) fc ff pl co tt st (d + 1) (nu_I (mo_s (rl_ct m 0) (f k) t)) (nI t) := by
  intro d
  induction d with
  | zero =>
    intro t ht
    have : t = 3 := by omega
    subst this
    rw [mo_s3]
    exact br_t (by decide) h
  | succ d ih =>
    intro t ht
    refine br_f (nI_ge (b := 3) (by omega) (by decide)) (xw_part (d := 0) hM (by omega) ?_)
    rw [xw_4, nI_add, nI_clamp (by omega), xw_Ca hC hk (show t < 4 by omega), nu_mul, nu_add]
    exact ⟨vp_in_nI (by omega) (by omega), nm_e (nm_r (nI_1 t) (ih (t + 1) (by omega)))⟩
theorem xw_val {post : Int32 → Prop} {m k : Nat} (hM : m ≤ 728) (hC : xw_C co c f) (hc : c ≤ 32) (hk : k < c) (h : post (nu_I (gm_ev (rl_ct m 0) (f k)))) :
    wpX_valueTop post (fc, ff, pl, co, tt, st) (nI m) (nI k) := by
  have := xw_val5 (fc := fc) (ff := ff) (pl := pl) (tt := tt) (st := st) hM hC hc hk h 3 0 (by omega)
  rw [show nu_I (mo_s (rl_ct m 0) (f k) 0) = 0 from nu_0.symm] at this
  exact ⟨4, this⟩
/-- the first of the farthest -/
def mo_b (v w : Nat → Int) : Nat → Nat
  | 0 => 0
  | k + 1 => if v (mo_b v w k) * w k < v k * w (mo_b v w k) then k else mo_b v w k
theorem mo_b_lt (v w : Nat → Int) : ∀ k, mo_b v w (k + 1) ≤ k := by
  intro k
  induction k with
  | zero => unfold mo_b; split <;> simp [mo_b]
  | succ k ih =>
    rw [mo_b]
    split
    · omega
    · omega
theorem mo_b_1 (v w : Nat → Int) : mo_b v w 1 = 0 := by
  have : mo_b v w 1 ≤ 0 := mo_b_lt v w 0
  omega
theorem mo_v_bd {m : Nat} (hM : m ≤ 728) {p : gm_V} (hb : gm_bd p) : -92160 ≤ gm_ev (rl_ct m 0) p ∧ gm_ev (rl_ct m 0) p ≤ 92160 := gm_ev_bd (rl_ct_ok hM (by omega) (by omega)) hb
theorem xw_far12 {post : Int32 → Prop} {m : Nat} (hM : m ≤ 728) (hC : xw_C co c f) (hc : c ≤ 32) (hb : ∀ k, k < c → gm_bd (f k))
    (h : post (nI (mo_b (fun k => gm_ev (rl_ct m 0) (f k)) (fun k => (f k).2.2.2) c))) :
    ∀ d k : Nat, k + d = c → 1 ≤ k → wX_farthestCorner_12 post (nI m) fc (nI c) pl co tt st (d + 1) (nI (mo_b (fun k => gm_ev (rl_ct m 0) (f k)) (fun k => (f k).2.2.2) k))
      (nu_I (gm_ev (rl_ct m 0) (f (mo_b (fun k => gm_ev (rl_ct m 0) (f k)) (fun k => (f k).2.2.2) k)))) (nI k) := by
  intro d
  induction d with
  | zero =>
    intro k hk _
    have : k = c := by omega
    subst this
    exact br_t (nI_le (Nat.le_refl _) (by omega)) h
  | succ d ih =>
    intro k hk h1
    obtain ⟨k', rfl⟩ : ∃ k', k = k' + 1 := ⟨k - 1, by omega⟩
    have hl := mo_b_lt (fun k => gm_ev (rl_ct m 0) (f k)) (fun k => (f k).2.2.2) k'
    have hs : mo_b (fun k => gm_ev (rl_ct m 0) (f k)) (fun k => (f k).2.2.2) (k' + 1 + 1) = if gm_ev (rl_ct m 0) (f (mo_b (fun k => gm_ev (rl_ct m 0) (f k)) (fun k => (f k).2.2.2) (k' + 1))) * (f (k' + 1)).2.2.2
        < gm_ev (rl_ct m 0) (f (k' + 1)) * (f (mo_b (fun k => gm_ev (rl_ct m 0) (f k)) (fun k => (f k).2.2.2) (k' + 1))).2.2.2 then k' + 1 else mo_b (fun k => gm_ev (rl_ct m 0) (f k)) (fun k => (f k).2.2.2) (k' + 1) := by
      rw [mo_b]
    have ihk := ih (k' + 1 + 1) (by omega) (by omega)
    generalize mo_b (fun k => gm_ev (rl_ct m 0) (f k)) (fun k => (f k).2.2.2) (k' + 1) = b at *
    have b1 := mo_v_bd hM (hb b (by omega))
    have b2 := mo_v_bd hM (hb (k' + 1) (by omega))
    have b3 := (hb b (by omega)).2.2.2
    have b4 := (hb (k' + 1) (by omega)).2.2.2
    have p1 := nu_pb (A := 92160) (B := 384) b2.1 b2.2 b3.1 b3.2
    have p2 := nu_pb (A := 92160) (B := 384) b1.1 b1.2 b4.1 b4.2
    refine br_f (nI_ge (by omega) (by omega)) (xw_val hM hC hc (by omega) ?_)
    rw [xw_4, xw_4, xw_a3, xw_a3, nI_clamp (by omega), nI_clamp (by omega), (hC b (by omega)).2.2.2, (hC (k' + 1) (by omega)).2.2.2, nu_mul, nu_mul]
    refine ⟨vp_in_nI (by omega) (by omega), vp_in_nI (by omega) (by omega), br_c (fun g => ?_) (fun g => ?_)⟩
    · have g' := (nu_le (by omega) (by omega) (by omega) (by omega)).mp g
      rw [if_neg (by omega)] at hs
      rw [hs] at ihk
      exact nm_r (nI_1 _) ihk
    · have g' := (not_congr (nu_le (by omega) (by omega) (by omega) (by omega))).mp g
      rw [if_pos (by omega)] at hs
      rw [hs] at ihk
      exact nm_r (nI_1 _) ihk
theorem xw_far {post : Int32 → Prop} {m : Nat} (hM : m ≤ 728) (hC : xw_C co c f) (hc : c ≤ 32) (h0 : c ≠ 0) (hb : ∀ k, k < c → gm_bd (f k))
    (h : post (nI (mo_b (fun k => gm_ev (rl_ct m 0) (f k)) (fun k => (f k).2.2.2) c))) : wpX_farthestCorner post (fc, nI c, pl, co, tt, st) (nI m) := by
  have := xw_far12 (fc := fc) (pl := pl) (tt := tt) (st := st) hM hC hc hb h (c - 1) 1 (by omega) (by omega)
  rw [mo_b_1] at this
  unfold wpX_farthestCorner
  exact xw_val (k := 0) hM hC hc (by omega) ⟨_, this⟩
theorem yw_best22 {post : Int32 → SY → Prop} {m p : Nat} (hM : m ≤ 728) (hp : p < 16) (hQ : yw_A gu gv gw gd (p + 1) Q) (hq : Q p = rl_ct m 0) (hC : yw_A gx gy gz gb c f) (hc : c ≤ 32) (hb : ∀ k, k < c → gm_bd (f k))
    (h : post (nI (mo_b (fun k => gm_ev (rl_ct m 0) (f k)) (fun k => (f k).2.2.2) c)) (fn, fp, nI c, nr, nb, gu, gv, gw, gd, gx, gy, gz, gb, gt, gf)) :
    ∀ d k : Nat, k + d = c → 1 ≤ k → wY_best_22 post (nI p) fn fp (nI c) nr nb gu gv gw gd gx gy gz gb gt gf (d + 1) (nI (mo_b (fun k => gm_ev (rl_ct m 0) (f k)) (fun k => (f k).2.2.2) k)) (nI k) := by
  intro d
  induction d with
  | zero =>
    intro k hk _
    have : k = c := by omega
    subst this
    exact br_t (nI_le (Nat.le_refl _) (by omega)) h
  | succ d ih =>
    intro k hk h1
    obtain ⟨k', rfl⟩ : ∃ k', k = k' + 1 := ⟨k - 1, by omega⟩
    have hl := mo_b_lt (fun k => gm_ev (rl_ct m 0) (f k)) (fun k => (f k).2.2.2) k'
    have hs : mo_b (fun k => gm_ev (rl_ct m 0) (f k)) (fun k => (f k).2.2.2) (k' + 1 + 1) = if gm_ev (rl_ct m 0) (f (mo_b (fun k => gm_ev (rl_ct m 0) (f k)) (fun k => (f k).2.2.2) (k' + 1))) * (f (k' + 1)).2.2.2
        < gm_ev (rl_ct m 0) (f (k' + 1)) * (f (mo_b (fun k => gm_ev (rl_ct m 0) (f k)) (fun k => (f k).2.2.2) (k' + 1))).2.2.2 then k' + 1 else mo_b (fun k => gm_ev (rl_ct m 0) (f k)) (fun k => (f k).2.2.2) (k' + 1) := by
      rw [mo_b]
    have ihk := ih (k' + 1 + 1) (by omega) (by omega)
    generalize mo_b (fun k => gm_ev (rl_ct m 0) (f k)) (fun k => (f k).2.2.2) (k' + 1) = b at *
    have b1 := mo_v_bd hM (hb b (by omega))
    have b2 := mo_v_bd hM (hb (k' + 1) (by omega))
    have b3 := (hb b (by omega)).2.2.2
    have b4 := (hb (k' + 1) (by omega)).2.2.2
    have p1 := nu_pb (A := 92160) (B := 384) b2.1 b2.2 b3.1 b3.2
    have p2 := nu_pb (A := 92160) (B := 384) b1.1 b1.2 b4.1 b4.2
    have ok : gm_ok (Q p) := by rw [hq]; exact rl_ct_ok hM (by omega) (by omega)
    refine br_f (nI_ge (by omega) (by omega)) (br_f (nI_pos (by omega)) (yw_side hQ (by omega) hC (by omega) (by omega) (by omega) ok (hb _ (by omega)) ⟨vp_in_nI (by omega) (by omega), ?_⟩))
    refine yw_side hQ (by omega) hC (by omega) (by omega) (by omega) ok (hb _ (by omega)) ⟨vp_in_nI (by omega) (by omega), ?_⟩
    rw [nI_clamp (by omega), nI_clamp (by omega), (hC b (by omega)).2.2.2, (hC (k' + 1) (by omega)).2.2.2, nu_64 (by omega) (by omega), nu_64 (by omega) (by omega), nu_Lmul, nu_Lmul, hq]
    refine br_c (fun g => ?_) (fun g => ?_)
    · have g' := (nu_Lle (by omega) (by omega) (by omega) (by omega)).mp g
      rw [if_neg (by omega)] at hs
      rw [hs] at ihk
      exact nm_r (nI_1 _) ihk
    · have g' := (not_congr (nu_Lle (by omega) (by omega) (by omega) (by omega))).mp g
      rw [if_pos (by omega)] at hs
      rw [hs] at ihk
      exact nm_r (nI_1 _) ihk
theorem yw_best {post : Int32 → SY → Prop} {m : Nat} (hM : m ≤ 728) (hR : rl_R n M D pl nr nb) (hL : ls_L (gm_Vt (rl_Q M D) (fun p => p < 6 + n)) c f) (hc : c ≤ 32) (hb : ∀ k, k < c → gm_bd (f k))
    (h0 : c = 0 → ∀ fp gu gv gw gd gx gy gz gb gt, post (-1) (nI n, fp, nI c, nr, nb, gu, gv, gw, gd, gx, gy, gz, gb, gt, gf))
    (h : c ≠ 0 → ∀ gu gv gw gd gx gy gz gb gt Q, yw_A gu gv gw gd (6 + n + 1) Q → Q (6 + n) = rl_ct m 0 → yw_A gx gy gz gb c f →
      post (nI (mo_b (fun k => gm_ev (rl_ct m 0) (f k)) (fun k => (f k).2.2.2) c)) (nI n, nI (6 + n + 1), nI c, nr, nb, gu, gv, gw, gd, gx, gy, gz, gb, gt, gf)) : wpY_best post (nI n, fp, fk, nr, nb, gu, gv, gw, gd, gx, gy, gz, gb, gt, gf) (nI m) := by
  have hn8 := hR.1.1
  unfold wpY_best
  refine yw_find2 hR hL (fun gu gv gw gd gx gy gz gb gt g1 g2 g3 => ?_)
  have hq : (fun i => if i < 6 + n then rl_Q M D i else rl_ct m 0) (6 + n) = rl_ct m 0 := if_neg (by omega)
  dsimp only
  rw [nu_0]
  refine yw_addN (m := 6 + n) (Q := fun i => if i < 6 + n then rl_Q M D i else rl_ct m 0) hM (by omega) (yw_A_cg g1 (fun k hk => (if_pos hk).symm)) hq (fun gu gv gw gd g4 => ?_)
  rw [← nu_0]
  refine nm_r (nI_pred _) ?_
  by_cases e : c = 0
  · subst e
    exact ⟨1, br_t (nI_le (a := 0) (b := 0) (by omega) (by omega)) (h0 rfl _ _ _ _ _ _ _ _ _ _)⟩
  · have := yw_best22 (fn := nI n) (fp := nI (6 + n + 1)) (nr := nr) (nb := nb) (gt := gt) (gf := gf) hM (by omega) g4 hq g2 hc hb (h e _ _ _ _ _ _ _ _ _ _ g4 hq g2) (c - 1) 1 (by omega) (by omega)
    rw [mo_b_1] at this
    exact ⟨c - 1 + 1 + 1, br_f (nI_ge (a := 0) (by omega) (by omega)) (br_t (by decide) (nm_r (nI_1 0) this))⟩
/-- top or bottom of the farthest corner's value -/
def mo_g (m : Nat) (p : gm_V) : Nat := Nat.gcd p.2.2.2.natAbs (gm_ev (rl_ct m 0) p).natAbs
theorem mo_g_bd {m : Nat} {p : gm_V} (hw : 0 < p.2.2.2) : 0 < mo_g m p ∧ mo_g m p ≤ p.2.2.2.natAbs :=
  ⟨Nat.gcd_pos_of_pos_left _ (by omega), Nat.le_of_dvd (by omega) (Nat.gcd_dvd_left _ _)⟩
theorem yw_m85 {post : Int32 → SY → Prop} {g : Nat} {x : Int} (h0 : 0 < g) (h1 : g ≤ 384) (x1 : -92160 ≤ x) (x2 : x ≤ 92160) (h : post (nu_I (x.tdiv g)) (fn, fp, fk, nr, nb, gu, gv, gw, gd, gx, gy, gz, gb, gt, gf)) : wY_most_85 post (nI g) (nu_I x) fn fp fk nr nb gu gv gw gd gx gy gz gb gt gf := by
  refine br_t (nI_le (a := 1) h0 (by omega)) ⟨nI_ne0 h0 (by omega), ?_⟩
  rw [nu_nI, nu_div (by omega) (by omega) (by omega) (by omega)]
  exact h
theorem yw_most {post : Int32 → SY → Prop} {m : Nat} {tp : Int32} (hM : m < 729) (hR : rl_R n M D pl nr nb) (hL : ls_L (gm_Vt (rl_Q M D) (fun p => p < 6 + n)) c f) (hc : c ≤ 32) (hb : ∀ k, k < c → gm_bd (f k)) (hw : ∀ k, k < c → 0 < (f k).2.2.2)
    (h0 : c = 0 → ∀ fp gu gv gw gd gx gy gz gb gt, post (-1000002) (nI n, fp, nI c, nr, nb, gu, gv, gw, gd, gx, gy, gz, gb, gt, gf))
    (h1 : c ≠ 0 → ¬ tp = 0 → ∀ fp gu gv gw gd gx gy gz gb gt p, p = f (mo_b (fun k => gm_ev (rl_ct m 0) (f k)) (fun k => (f k).2.2.2) c) → post (nu_I ((gm_ev (rl_ct m 0) p).tdiv (mo_g m p))) (nI n, fp, nI c, nr, nb, gu, gv, gw, gd, gx, gy, gz, gb, gt, gf))
    (h2 : c ≠ 0 → tp = 0 → ∀ fp gu gv gw gd gx gy gz gb gt p, p = f (mo_b (fun k => gm_ev (rl_ct m 0) (f k)) (fun k => (f k).2.2.2) c) → post (nu_I (p.2.2.2.tdiv (mo_g m p))) (nI n, fp, nI c, nr, nb, gu, gv, gw, gd, gx, gy, gz, gb, gt, gf)) :
    wpY_most post (nI n, fp, fk, nr, nb, gu, gv, gw, gd, gx, gy, gz, gb, gt, gf) (nI m) tp := by
  have hn8 := hR.1.1
  unfold wpY_most
  refine yw_ix (c := 729) (by omega) (by decide) (fun _ _ _ => br_f (by decide) ?_) (fun hx => absurd ⟨m, hM, rfl⟩ hx)
  refine yw_best (by omega) hR hL hc hb (fun e fp gu gv gw gd gx gy gz gb gt => ?_) (fun e gu gv gw gd gx gy gz gb gt Q g1 g2 g3 => ?_)
  · exact br_f (by decide) (h0 e _ _ _ _ _ _ _ _ _ _)
  · obtain ⟨k', rfl⟩ : ∃ k', c = k' + 1 := ⟨c - 1, by omega⟩
    have hl := mo_b_lt (fun k => gm_ev (rl_ct m 0) (f k)) (fun k => (f k).2.2.2) k'
    have H1 := fun tn fp gu gv gw gd gx gy gz gb gt => h1 e tn fp gu gv gw gd gx gy gz gb gt _ rfl
    have H2 := fun tn fp gu gv gw gd gx gy gz gb gt => h2 e tn fp gu gv gw gd gx gy gz gb gt _ rfl
    generalize mo_b (fun k => gm_ev (rl_ct m 0) (f k)) (fun k => (f k).2.2.2) (k' + 1) = b at *
    have hbb := hb b (by omega)
    have b1 := mo_v_bd (show m ≤ 728 by omega) hbb
    have b3 := hbb.2.2.2
    have w0 := hw b (by omega)
    have hg := mo_g_bd (m := m) w0
    have vb := vp_in_nI (n := b) (N := 40) (by omega) (by omega)
    have y3 := (g3 b (by omega)).2.2.2
    have ok : gm_ok (Q (6 + n)) := by rw [g2]; exact rl_ct_ok (by omega) (by omega) (by omega)
    have W : wY_most_68 post tp (nI b) (nu_I (gm_ev (rl_ct m 0) (f b))) (nI (mo_g m (f b))) (nI n) (nI (6 + n + 1)) (nI (k' + 1)) nr nb gu gv gw gd gx gy gz gb gt gf := by
      refine br_c (fun t => ⟨vb, ?_⟩) (fun t => ?_)
      · rw [nI_clamp (by omega), y3]
        exact yw_m85 hg.1 (by omega) (by omega) (by omega) (H2 t _ _ _ _ _ _ _ _ _ _)
      · exact yw_m85 hg.1 (by omega) (by omega) (by omega) (H1 t _ _ _ _ _ _ _ _ _ _)
    refine br_t (nI_pos' (by omega)) ?_
    rw [nI_pred]
    refine yw_side g1 (by omega) g3 (by omega) (by omega) (by omega) ok hbb ?_
    rw [g2, nu_32, nI_clamp (by omega), y3]
    refine br_c (fun z => ⟨vb, ?_⟩) (fun z => ⟨vb, ?_⟩)
    · have z' := (nu_eq0 (by omega) (by omega)).mp z
      have eg : nu_I (f b).2.2.2 = nI (mo_g m (f b)) := by
        rw [nu_nI]
        unfold mo_g
        rw [z', Int.natAbs_zero, Nat.gcd_zero_right]
        congr 1
        omega
      rw [eg]
      exact W
    · refine yw_common (by omega) (by omega) ?_
      rw [Nat.gcd_comm]
      have : Nat.gcd (f b).2.2.2.natAbs (gm_ev (rl_ct m 0) (f b)).natAbs = mo_g m (f b) := rfl
      rw [this, if_neg (by omega)]
      exact W
theorem i_vc_mostTop {k : Nat} {u : SX} {v : SY} (I : i_Rel k u v) (hk : k + 3 ≤ 1536) (v1 : Int32) : wpX_mostTop (fun r u' => wpY_mostTop (fun r' v' => r' = r ∧ i_Rel (k + 3) u' v') v v1) u v1 := by
  obtain ⟨fc, ff, pl, co, tt, st⟩ := u
  obtain ⟨fn, fp, fk, nr, nb, gu, gv, gw, gd, gx, gy, gz, gb, gt, gf⟩ := v
  have I' := I
  obtain ⟨n, M, D, e1, e2, hR⟩ := I
  dsimp only at e1 e2 hR
  subst e1 e2
  have hn8 := hR.1.1
  unfold wpX_mostTop
  refine xw_isN (fun m hm em => ?_) (fun hx => ?_)
  · subst em
    refine br_f (by decide) (xw_body hR (fun c f co tt hc hL hC hT => ?_))
    have hbd : ∀ k, k < c → gm_bd (f k) := fun k hk => gm_vt_bd (fun i hi => (rl_Q_ok hR.1 i hi).1) (hL.1 k hk)
    have hw : ∀ k, k < c → 0 < (f k).2.2.2 := fun k hk => (hL.1 k hk).1.1
    by_cases e : c = 0
    · refine br_t (by rw [e]; rfl) ?_
      unfold wpY_mostTop
      exact yw_most hm hR hL hc hbd hw (fun _ fp gu gv gw gd gx gy gz gb gt => ⟨rfl, n, M, D, rfl, rfl, hR⟩) (fun z => absurd e z) (fun z => absurd e z)
    · refine br_f (nI_ne0 (by omega) (by omega)) (xw_far (by omega) hC hc e hbd ?_)
      obtain ⟨k', rfl⟩ : ∃ k', c = k' + 1 := ⟨c - 1, by omega⟩
      have hl := mo_b_lt (fun k => gm_ev (rl_ct m 0) (f k)) (fun k => (f k).2.2.2) k'
      have hbb := hbd (mo_b (fun k => gm_ev (rl_ct m 0) (f k)) (fun k => (f k).2.2.2) (k' + 1)) (by omega)
      have b1 := mo_v_bd (show m ≤ 728 by omega) hbb
      have b3 := hbb.2.2.2
      have w0 := hw (mo_b (fun k => gm_ev (rl_ct m 0) (f k)) (fun k => (f k).2.2.2) (k' + 1)) (by omega)
      have hg := mo_g_bd (m := m) w0
      refine xw_val (by omega) hC hc (by omega) ?_
      rw [xw_4, xw_a3, nI_clamp (by omega), (hC _ (show mo_b (fun k => gm_ev (rl_ct m 0) (f k)) (fun k => (f k).2.2.2) (k' + 1) < k' + 1 by omega)).2.2.2]
      refine ⟨vp_in_nI (by omega) (by omega), xw_gcd (by omega) (by omega) ?_⟩
      have eg : Nat.gcd (f (mo_b (fun k => gm_ev (rl_ct m 0) (f k)) (fun k => (f k).2.2.2) (k' + 1))).2.2.2.natAbs (gm_ev (rl_ct m 0) (f (mo_b (fun k => gm_ev (rl_ct m 0) (f k)) (fun k => (f k).2.2.2) (k' + 1)))).natAbs
        = mo_g m (f (mo_b (fun k => gm_ev (rl_ct m 0) (f k)) (fun k => (f k).2.2.2) (k' + 1))) := rfl
      rw [eg, nu_div (by omega) (by omega) (by omega) (by omega)]
      refine ⟨fun z => ?_, ?_⟩
      · have := (nu_eq0 (by omega) (by omega)).mp z
        omega
      · unfold wpY_mostTop
        exact yw_most hm hR hL hc hbd hw (fun z => absurd z e) (fun _ _ fp gu gv gw gd gx gy gz gb gt p hp => by subst hp; exact ⟨rfl, n, M, D, rfl, rfl, hR⟩) (fun _ z => absurd z (by decide))
  · refine br_t rfl ?_
    unfold wpY_mostTop wpY_most
    exact yw_ix (c := 729) (by omega) (by decide) (fun j hj ej => absurd ⟨j, hj, ej⟩ hx) (fun _ => br_t rfl ⟨rfl, I'⟩)
theorem i_vc_mostBottom {k : Nat} {u : SX} {v : SY} (I : i_Rel k u v) (hk : k + 3 ≤ 1536) (v1 : Int32) : wpX_mostBottom (fun r u' => wpY_mostBottom (fun r' v' => r' = r ∧ i_Rel (k + 3) u' v') v v1) u v1 := by
  obtain ⟨fc, ff, pl, co, tt, st⟩ := u
  obtain ⟨fn, fp, fk, nr, nb, gu, gv, gw, gd, gx, gy, gz, gb, gt, gf⟩ := v
  have I' := I
  obtain ⟨n, M, D, e1, e2, hR⟩ := I
  dsimp only at e1 e2 hR
  subst e1 e2
  have hn8 := hR.1.1
  unfold wpX_mostBottom
  refine xw_isN (fun m hm em => ?_) (fun hx => ?_)
  · subst em
    refine br_f (by decide) (xw_body hR (fun c f co tt hc hL hC hT => ?_))
    have hbd : ∀ k, k < c → gm_bd (f k) := fun k hk => gm_vt_bd (fun i hi => (rl_Q_ok hR.1 i hi).1) (hL.1 k hk)
    have hw : ∀ k, k < c → 0 < (f k).2.2.2 := fun k hk => (hL.1 k hk).1.1
    by_cases e : c = 0
    · refine br_t (by rw [e]; rfl) ?_
      unfold wpY_mostBottom
      exact yw_most hm hR hL hc hbd hw (fun _ fp gu gv gw gd gx gy gz gb gt => ⟨rfl, n, M, D, rfl, rfl, hR⟩) (fun z => absurd e z) (fun z => absurd e z)
    · refine br_f (nI_ne0 (by omega) (by omega)) (xw_far (by omega) hC hc e hbd ?_)
      obtain ⟨k', rfl⟩ : ∃ k', c = k' + 1 := ⟨c - 1, by omega⟩
      have hl := mo_b_lt (fun k => gm_ev (rl_ct m 0) (f k)) (fun k => (f k).2.2.2) k'
      have hbb := hbd (mo_b (fun k => gm_ev (rl_ct m 0) (f k)) (fun k => (f k).2.2.2) (k' + 1)) (by omega)
      have b1 := mo_v_bd (show m ≤ 728 by omega) hbb
      have b3 := hbb.2.2.2
      have w0 := hw (mo_b (fun k => gm_ev (rl_ct m 0) (f k)) (fun k => (f k).2.2.2) (k' + 1)) (by omega)
      have hg := mo_g_bd (m := m) w0
      refine xw_val (by omega) hC hc (by omega) ?_
      rw [xw_4, xw_a3, nI_clamp (by omega), (hC _ (show mo_b (fun k => gm_ev (rl_ct m 0) (f k)) (fun k => (f k).2.2.2) (k' + 1) < k' + 1 by omega)).2.2.2]
      refine ⟨vp_in_nI (by omega) (by omega), nm_e (xw_gcd (by omega) (by omega) ?_)⟩
      have eg : Nat.gcd (f (mo_b (fun k => gm_ev (rl_ct m 0) (f k)) (fun k => (f k).2.2.2) (k' + 1))).2.2.2.natAbs (gm_ev (rl_ct m 0) (f (mo_b (fun k => gm_ev (rl_ct m 0) (f k)) (fun k => (f k).2.2.2) (k' + 1)))).natAbs
        = mo_g m (f (mo_b (fun k => gm_ev (rl_ct m 0) (f k)) (fun k => (f k).2.2.2) (k' + 1))) := rfl
      rw [eg, nu_div (by omega) (by omega) (by omega) (by omega)]
      refine ⟨fun z => ?_, ?_⟩
      · have := (nu_eq0 (by omega) (by omega)).mp z
        omega
      · unfold wpY_mostBottom
        exact yw_most hm hR hL hc hbd hw (fun z => absurd z e) (fun _ z => absurd rfl z) (fun _ _ fp gu gv gw gd gx gy gz gb gt p hp => by subst hp; exact ⟨rfl, n, M, D, rfl, rfl, hR⟩)
  · refine br_t rfl ?_
    unfold wpY_mostBottom wpY_most
    exact yw_ix (c := 729) (by omega) (by decide) (fun j hj ej => absurd ⟨j, hj, ej⟩ hx) (fun _ => br_t rfl ⟨rfl, I'⟩)
end
