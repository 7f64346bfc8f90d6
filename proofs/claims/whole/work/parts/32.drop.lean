/-! drop, needless, section -/
section
variable {fc ff : Int32} {pl co tt st : Nat → Int32} {Q f : Nat → gm_V} {n c : Nat} {M : Nat → Nat} {D : Nat → Int}
variable {fn fp fk : Int32} {nr nb gu gv gw gd gx gy gz gb gt gf : Nat → Int32}
theorem xw_d30 {post : Int32 → SX → Prop} {l : Nat} (hn : n ≤ 8) (hl : l < n)
    (h : ∀ pl', (∀ i, i < 4 * (6 + l) → pl' i = pl i) → (∀ i, 4 * (6 + l) ≤ i → i < 4 * (5 + n) → pl' i = pl (i + 4)) → post (nI (n - 1)) (nI (n - 1), ff, pl', co, tt, st)) :
    ∀ (d t : Nat) (pl' : Nat → Int32), t + d = 4 * (5 + n) → 4 * (6 + l) ≤ t → (∀ i, i < 4 * (6 + l) → pl' i = pl i) → (∀ i, 4 * (6 + l) ≤ i → i < t → pl' i = pl (i + 4)) → (∀ i, t ≤ i → pl' i = pl i) →
      wX_drop_30 post (nI (4 * (5 + n))) (nI n) ff (d + 1) (nI t) pl' co tt st := by
  intro d
  induction d with
  | zero =>
    intro t pl' ht h0 h1 h2 h3
    have : t = 4 * (5 + n) := by omega
    subst this
    refine br_t (nI_le (Nat.le_refl _) (by omega)) (nm_r ?_ (h pl' h1 h2))
    exact pk_sub (a := n) (b := 1) (by omega)
  | succ d ih =>
    intro t pl' ht h0 h1 h2 h3
    refine br_f (nI_ge (by omega) (by omega)) ?_
    rw [show nI t + (4 : Int32) = nI (t + 4) from nI_add t 4, nI_clamp (by omega), nI_clamp (by omega)]
    refine ⟨vp_in_nI (by omega) (by omega), vp_in_nI (by omega) (by omega), nm_e (nm_r (nI_1 t) (ih (t + 1) _ (by omega) (by omega) (fun i hi => ?_) (fun i h4 h5 => ?_) (fun i hi => ?_)))⟩
    · rw [pk_un (by omega)]; exact h1 i hi
    · by_cases e : i = t
      · subst e; rw [pk_us]; exact h3 _ (by omega)
      · rw [pk_un e]; exact h2 i h4 (by omega)
    · rw [pk_un (by omega)]; exact h3 i (by omega)
theorem yw_d20 {post : Int32 → SY → Prop} {l : Nat} (hn : n ≤ 8) (hl : l < n)
    (h : ∀ nr' nb', (∀ i, i < n - 1 → nr' i = if i < l then nr i else nr (i + 1)) → (∀ i, i < n - 1 → nb' i = if i < l then nb i else nb (i + 1)) → post (nI (n - 1)) (nI (n - 1), fp, fk, nr', nb', gu, gv, gw, gd, gx, gy, gz, gb, gt, gf)) :
    ∀ (d t : Nat) (nr' nb' : Nat → Int32), t + d = n - 1 → l ≤ t → (∀ i, i < t → nr' i = if i < l then nr i else nr (i + 1)) → (∀ i, i < t → nb' i = if i < l then nb i else nb (i + 1)) →
      (∀ i, t ≤ i → nr' i = nr i ∧ nb' i = nb i) → wY_drop_20 post (nI n) fp fk (d + 1) (nI t) nr' nb' gu gv gw gd gx gy gz gb gt gf := by
  have en : nI n - 1 = nI (n - 1) := pk_sub (a := n) (b := 1) (by omega)
  intro d
  induction d with
  | zero =>
    intro t nr' nb' ht h0 h1 h2 h3
    have : t = n - 1 := by omega
    subst this
    unfold wY_drop_20
    rw [en]
    exact br_t (nI_le (Nat.le_refl _) (by omega)) (nm_e (h nr' nb' h1 h2))
  | succ d ih =>
    intro t nr' nb' ht h0 h1 h2 h3
    unfold wY_drop_20
    rw [en]
    refine br_f (nI_ge (by omega) (by omega)) ?_
    rw [nI_1 t, nI_clamp (by omega), nI_clamp (by omega)]
    have v1 := vp_in_nI (n := t + 1) (N := 8) (by omega) (by omega)
    have v0 := vp_in_nI (n := t) (N := 8) (by omega) (by omega)
    refine ⟨v1, v0, nm_e ⟨v1, v0, nm_e (nm_e (ih (t + 1) _ _ (by omega) (by omega) (fun i hi => ?_) (fun i hi => ?_) (fun i hi => ?_)))⟩⟩
    · by_cases e : i = t
      · subst e; rw [pk_us, if_neg (by omega)]; exact (h3 _ (by omega)).1
      · rw [pk_un e]; exact h1 i (by omega)
    · by_cases e : i = t
      · subst e; rw [pk_us, if_neg (by omega)]; exact (h3 _ (by omega)).2
      · rw [pk_un e]; exact h2 i (by omega)
    · rw [pk_un (by omega), pk_un (by omega)]; exact h3 i (by omega)
/-- a cut is dropped -/
theorem rl_pop {l : Nat} {pl' nr' nb' : Nat → Int32} (h : rl_R n M D pl nr nb) (hl : l < n) (h1 : ∀ i, i < 4 * (6 + l) → pl' i = pl i) (h2 : ∀ i, 4 * (6 + l) ≤ i → i < 4 * (5 + n) → pl' i = pl (i + 4))
    (h3 : ∀ i, i < n - 1 → nr' i = if i < l then nr i else nr (i + 1)) (h4 : ∀ i, i < n - 1 → nb' i = if i < l then nb i else nb (i + 1)) :
    rl_R (n - 1) (fun i => if i < l then M i else M (i + 1)) (fun i => if i < l then D i else D (i + 1)) pl' nr' nb' := by
  obtain ⟨⟨k1, k2⟩, k3, k4⟩ := h
  refine ⟨⟨by omega, fun i hi => ?_⟩, fun i hi => ?_, fun k hk => ?_⟩
  · by_cases e : i < l
    · simp only [if_pos e]; exact k2 i (by omega)
    · simp only [if_neg e]; exact k2 (i + 1) (by omega)
  · rw [h3 i hi, h4 i hi]
    by_cases e : i < l
    · simp only [if_pos e]; exact k3 i (by omega)
    · simp only [if_neg e]; exact k3 (i + 1) (by omega)
  · by_cases e : k < 6 + l
    · rw [h1 _ (by omega), h1 _ (by omega), h1 _ (by omega), h1 _ (by omega)]
      have : rl_Q (fun i => if i < l then M i else M (i + 1)) (fun i => if i < l then D i else D (i + 1)) k = rl_Q M D k := by
        unfold rl_Q
        by_cases e6 : k < 6
        · rw [if_pos e6, if_pos e6]
        · rw [if_neg e6, if_neg e6]
          simp only [if_pos (show k - 6 < l by omega)]
      rw [this]
      exact k4 k (by omega)
    · rw [h2 _ (by omega) (by omega), h2 _ (by omega) (by omega), h2 _ (by omega) (by omega), h2 _ (by omega) (by omega)]
      have : rl_Q (fun i => if i < l then M i else M (i + 1)) (fun i => if i < l then D i else D (i + 1)) k = rl_Q M D (k + 1) := by
        unfold rl_Q
        rw [if_neg (by omega), if_neg (by omega)]
        simp only [if_neg (show ¬ k - 6 < l by omega), show k + 1 - 6 = k - 6 + 1 by omega]
      rw [this]
      exact k4 (k + 1) (by omega)
theorem i_vc_drop {k : Nat} {u : SX} {v : SY} (I : i_Rel k u v) (hk : k + 3 ≤ 1536) (v1 : Int32) : wpX_drop (fun r u' => wpY_drop (fun r' v' => r' = r ∧ i_Rel (k + 3) u' v') v v1) u v1 := by
  obtain ⟨fc, ff, pl, co, tt, st⟩ := u
  obtain ⟨fn, fp, fk, nr, nb, gu, gv, gw, gd, gx, gy, gz, gb, gt, gf⟩ := v
  have I' := I
  obtain ⟨n, M, D, e1, e2, hR⟩ := I
  dsimp only at e1 e2 hR
  subst e1 e2
  have hn8 := hR.1.1
  unfold wpX_drop
  refine xw_isC (by omega) (fun l hl el => ?_) (fun hx => ?_)
  · subst el
    have e9 : (4 : Int32) * ((6 + nI n) - 1) = nI (4 * (5 + n)) := by
      rw [xw_66, show 6 + n = (5 + n) + 1 by omega, nI_pred, xw_4]
    refine br_f (by decide) (nm_r e9 (nm_r (xw_64 l) ⟨4 * (5 + n) - 4 * (6 + l) + 1, xw_d30 hn8 hl (fun pl' g1 g2 => ?_) _ (4 * (6 + l)) pl (by omega) (by omega) (fun _ _ => rfl) (fun i h1 h2 => by omega) (fun _ _ => rfl)⟩))
    unfold wpY_drop
    refine yw_ix (c := n) (by omega) rfl (fun _ _ _ => br_f (by decide) ?_) (fun hx => absurd ⟨l, hl, rfl⟩ hx)
    refine ⟨n - 1 - l + 1, yw_d20 hn8 hl (fun nr' nb' g3 g4 => ?_) (n - 1 - l) l nr nb (by omega) (by omega) (fun i hi => by rw [if_pos hi]) (fun i hi => by rw [if_pos hi]) (fun _ _ => ⟨rfl, rfl⟩)⟩
    exact ⟨rfl, n - 1, _, _, rfl, rfl, rl_pop hR hl g1 g2 g3 g4⟩
  · refine br_t rfl ?_
    unfold wpY_drop
    exact yw_ix (c := n) (by omega) rfl (fun j hj ej => absurd ⟨j, hj, ej⟩ hx) (fun _ => br_t rfl ⟨rfl, I'⟩)

/-- the same corners from the same planes under other numbers -/
theorem gm_Vt_map {Q Q' : Nat → gm_V} {ac ac' : Nat → Prop} (h1 : ∀ i, ac i → ∃ j, ac' j ∧ Q' j = Q i) (h2 : ∀ j, ac' j → ∃ i, ac i ∧ Q i = Q' j) {p : gm_V} (h : gm_Vt Q ac p) : gm_Vt Q' ac' p := by
  obtain ⟨⟨hw, hin, i, j, k, hi, hj, hk, hd, ei, ej, ek⟩, hg⟩ := h
  obtain ⟨i', ai, qi⟩ := h1 i hi
  obtain ⟨j', aj, qj⟩ := h1 j hj
  obtain ⟨k', ak, qk⟩ := h1 k hk
  refine ⟨⟨hw, fun t ht => ?_, i', j', k', ai, aj, ak, ?_, ?_, ?_, ?_⟩, hg⟩
  · obtain ⟨s, hs, e⟩ := h2 t ht
    rw [← e]; exact hin s hs
  · rw [qi, qj, qk]; exact hd
  · rw [qi]; exact ei
  · rw [qj]; exact ej
  · rw [qk]; exact ek
theorem rl_wo_vt {l m : Nat} (hl : l < m + 1) (p : gm_V) : gm_Vt Q (fun p => p < m + 1 ∧ ¬ p = l) p ↔ gm_Vt (rl_wo Q l) (fun p => p < m) p := by
  have h1 : ∀ i, (i < m + 1 ∧ ¬ i = l) → ∃ j, j < m ∧ rl_wo Q l j = Q i := by
    intro i hi
    by_cases e : i < l
    · exact ⟨i, by omega, if_pos e⟩
    · refine ⟨i - 1, by omega, ?_⟩
      unfold rl_wo
      rw [if_neg (by omega), show i - 1 + 1 = i by omega]
  have h2 : ∀ j, j < m → ∃ i, (i < m + 1 ∧ ¬ i = l) ∧ Q i = rl_wo Q l j := by
    intro j hj
    unfold rl_wo
    by_cases e : j < l
    · exact ⟨j, by omega, by rw [if_pos e]⟩
    · exact ⟨j + 1, by omega, by rw [if_neg e]⟩
  exact ⟨gm_Vt_map h1 h2, gm_Vt_map h2 h1⟩
theorem xw_nl29 {post : Int32 → SX → Prop} {l : Nat} (hP : xw_C pl n Q) (hn : n ≤ 16) (hl : l < n) (ok : gm_ok (Q l)) (hC : xw_C co c f) (hc : c ≤ 32) (hb : ∀ k, k < c → gm_bd (f k))
    (h1 : (∀ k, k < c → gm_ev (Q l) (f k) ≤ 0) → post 1 (fc, nI c, pl, co, tt, st)) (h0 : ¬ (∀ k, k < c → gm_ev (Q l) (f k) ≤ 0) → post 0 (fc, nI c, pl, co, tt, st)) :
    ∀ d k : Nat, k + d = c → (∀ j, j < k → gm_ev (Q l) (f j) ≤ 0) → wX_needless_29 post (nI l) fc (nI c) pl co tt st (d + 1) (nI k) := by
  intro d
  induction d with
  | zero =>
    intro k hk hI
    have : k = c := by omega
    subst this
    exact br_t (nI_le (Nat.le_refl _) (by omega)) (h1 hI)
  | succ d ih =>
    intro k hk hI
    have eb := gm_ev_bd ok (hb k (by omega))
    refine br_f (nI_ge (by omega) (by omega)) (xw_excess hP hC hl hn (by omega) (by omega) (br_c (fun g => ?_) (fun g => ?_)))
    · have g' := (nu_le0 (by omega) (by omega)).mp g
      refine nm_r (nI_1 k) (ih (k + 1) (by omega) (fun j hj => ?_))
      by_cases e : j = k
      · subst e; exact g'
      · exact hI j (by omega)
    · exact h0 (fun z => g ((nu_le0 (by omega) (by omega)).mpr (z k (by omega))))
theorem yw_nl44 {post : Int32 → SY → Prop} {l : Nat} (hQ : yw_A gu gv gw gd (l + 1) Q) (hl : l < 16) (ok : gm_ok (Q l)) (hC : yw_A gx gy gz gb c f) (hc : c ≤ 32) (hb : ∀ k, k < c → gm_bd (f k))
    (h1 : (∀ k, k < c → gm_ev (Q l) (f k) ≤ 0) → post 1 (fn, nI (l + 1), nI c, nr, nb, gu, gv, gw, gd, gx, gy, gz, gb, gt, gf)) (h0 : ¬ (∀ k, k < c → gm_ev (Q l) (f k) ≤ 0) → post 0 (fn, nI (l + 1), nI c, nr, nb, gu, gv, gw, gd, gx, gy, gz, gb, gt, gf)) :
    ∀ d k : Nat, k + d = c → (∀ j, j < k → gm_ev (Q l) (f j) ≤ 0) → wY_needless_44 post fn (nI (l + 1)) (nI c) nr nb gu gv gw gd gx gy gz gb gt gf (d + 1) (nI k) := by
  intro d
  induction d with
  | zero =>
    intro k hk hI
    have : k = c := by omega
    subst this
    exact br_t (nI_le (Nat.le_refl _) (by omega)) (h1 hI)
  | succ d ih =>
    intro k hk hI
    have eb := gm_ev_bd ok (hb k (by omega))
    unfold wY_needless_44
    rw [nI_pred]
    refine br_f (nI_ge (by omega) (by omega)) (yw_side hQ (by omega) hC (by omega) (by omega) (by omega) ok (hb k (by omega)) (br_c (fun g => ?_) (fun g => ?_)))
    · have g' := (nu_Lle0 (by omega) (by omega)).mp g
      refine nm_r (nI_1 k) (ih (k + 1) (by omega) (fun j hj => ?_))
      by_cases e : j = k
      · subst e; exact g'
      · exact hI j (by omega)
    · exact h0 (fun z => g ((nu_Lle0 (by omega) (by omega)).mpr (z k (by omega))))
theorem i_vc_needless {k : Nat} {u : SX} {v : SY} (I : i_Rel k u v) (hk : k + 3 ≤ 1536) (v1 : Int32) : wpX_needless (fun r u' => wpY_needless (fun r' v' => r' = r ∧ i_Rel (k + 3) u' v') v v1) u v1 := by
  obtain ⟨fc, ff, pl, co, tt, st⟩ := u
  obtain ⟨fn, fp, fk, nr, nb, gu, gv, gw, gd, gx, gy, gz, gb, gt, gf⟩ := v
  have I' := I
  obtain ⟨n, M, D, e1, e2, hR⟩ := I
  dsimp only at e1 e2 hR
  subst e1 e2
  have hn8 := hR.1.1
  unfold wpX_needless
  refine xw_isC (by omega) (fun l hl el => ?_) (fun hx => ?_)
  · subst el
    have hok := fun i hi => (rl_Q_ok hR.1 i hi).1
    refine br_f (by decide) (nm_r (xw_66 l) ?_)
    rw [xw_66 n]
    refine xw_find (L := fun p => p = 6 + l) (xw_Ll (by omega) (by omega)) hR.2.2 (by omega) hok (fun c f co tt hc hL hC hT => ?_)
    have hL2 : ls_L (gm_Vt (rl_wo (rl_Q M D) (6 + l)) (fun p => p < 5 + n)) c f := by
      rw [show 6 + n = (5 + n) + 1 by omega] at hL
      exact ls_cg (rl_wo_vt (by omega)) hL
    have hbd : ∀ k, k < c → gm_bd (f k) := fun k hk => gm_vt_bd (fun i hi => hok i hi.1) (hL.1 k hk)
    have hwo : ∀ i, i < 5 + n → gm_ok (rl_wo (rl_Q M D) (6 + l) i) := by
      intro i hi
      unfold rl_wo
      split
      · exact hok i (by omega)
      · exact hok (i + 1) (by omega)
    have Y : ∀ (b : Bool) (r : Int32), (b = true → r = 1) → (b = false → r = 0) → (b = true ↔ ∀ k, k < c → gm_ev (rl_Q M D (6 + l)) (f k) ≤ 0) →
        wpY_needless (fun r' v' => r' = r ∧ i_Rel (k + 3) (nI n, nI c, pl, co, tt, st) v') (nI n, fp, fk, nr, nb, gu, gv, gw, gd, gx, gy, gz, gb, gt, gf) (nI l) := by
      intro b r rt rf hb
      unfold wpY_needless
      refine yw_ix (c := n) (by omega) rfl (fun _ _ _ => br_f (by decide) ?_) (fun hx => absurd ⟨l, hl, rfl⟩ hx)
      refine yw_setl hl hR.1 hR.2.1 (fun gu gv gw gd g1 => ?_)
      refine yw_fc2 g1 (by omega) hwo hL2 (fun gx gy gz gb gt g2 g3 => ?_)
      have vl := vp_in_nI (n := l) (N := 8) (by omega) (by omega)
      obtain ⟨a1, a2⟩ := hR.2.1 l hl
      obtain ⟨m1, m2, m3, m4⟩ := hR.1.2 l hl
      refine ⟨vl, vl, ?_⟩
      rw [nI_clamp (by omega), a1, a2]
      have eQ : rl_Q M D (6 + l) = rl_ct (M l) (D l) := by
        unfold rl_Q
        rw [if_neg (by omega), show 6 + l - 6 = l by omega]
      refine yw_addN (m := 5 + n) (Q := fun i => if i < 5 + n then rl_wo (rl_Q M D) (6 + l) i else rl_ct (M l) (D l)) m1 (by omega) (yw_A_cg g1 (fun k hk => (if_pos hk).symm)) (if_neg (by omega)) (fun gu gv gw gd g4 => ?_)
      have eQ2 : (if 5 + n < 5 + n then rl_wo (rl_Q M D) (6 + l) (5 + n) else rl_ct (M l) (D l)) = rl_Q M D (6 + l) := by
        rw [eQ]; exact if_neg (by omega)
      refine ⟨c + 1, yw_nl44 (Q := fun i => if i < 5 + n then rl_wo (rl_Q M D) (6 + l) i else rl_ct (M l) (D l)) g4 (by omega) (by rw [eQ2]; exact hok _ (by omega)) g2 hc hbd (fun z => ?_) (fun z => ?_) c 0 (by omega) (fun j hj => by omega)⟩
      · rw [eQ2] at z
        exact ⟨(rt (hb.mpr z)).symm, n, M, D, rfl, rfl, hR⟩
      · rw [eQ2] at z
        refine ⟨(rf ?_).symm, n, M, D, rfl, rfl, hR⟩
        cases b
        · rfl
        · exact absurd (hb.mp rfl) z
    refine ⟨c + 1, xw_nl29 hR.2.2 (by omega) (by omega) (hok _ (by omega)) hC hc hbd (fun z => Y true 1 (fun _ => rfl) (fun e => by cases e) ⟨fun _ => z, fun _ => rfl⟩)
      (fun z => Y false 0 (fun e => by cases e) (fun _ => rfl) ⟨fun e => (by cases e), fun z' => absurd z' z⟩) c 0 (by omega) (fun j hj => by omega)⟩
  · refine br_t rfl ?_
    unfold wpY_needless
    exact yw_ix (c := n) (by omega) rfl (fun j hj ej => absurd ⟨j, hj, ej⟩ hx) (fun _ => br_t rfl ⟨rfl, I'⟩)
/-- the planes of a section -/
def rl_se (Q : Nat → gm_V) (m a : Nat) (d : Int) : Nat → gm_V := fun i => if i < m then Q i else if i = m then rl_ax a 1 d else rl_ax a (-1) (-d)
theorem rl_ax_ok {a : Nat} {s d : Int} (h1 : -1 ≤ s) (h2 : s ≤ 1) (h3 : -8 ≤ d) (h4 : d ≤ 8) : gm_ok (rl_ax a s d) := by
  simp only [gm_ok, rl_ax]
  refine ⟨?_, ?_, ?_, ?_⟩
  · split <;> omega
  · split <;> omega
  · split <;> omega
  · omega
theorem i_vc_section {k : Nat} {u : SX} {v : SY} (I : i_Rel k u v) (hk : k + 3 ≤ 1536) (v1 : Int32) (v2 : Int32) : wpX_section (fun r u' => wpY_section (fun r' v' => r' = r ∧ i_Rel (k + 3) u' v') v v1 v2) u v1 v2 := by
  obtain ⟨fc, ff, pl, co, tt, st⟩ := u
  obtain ⟨fn, fp, fk, nr, nb, gu, gv, gw, gd, gx, gy, gz, gb, gt, gf⟩ := v
  have I' := I
  obtain ⟨n, M, D, e1, e2, hR⟩ := I
  dsimp only at e1 e2 hR
  subst e1 e2
  have hn8 := hR.1.1
  unfold wpX_section
  refine xw_isA (fun a ha ea => ?_) (fun hx => ?_)
  · subst ea
    have inA : ∀ {post : Int32 → Prop}, post 1 → wpY_in post (nI n, fp, fk, nr, nb, gu, gv, gw, gd, gx, gy, gz, gb, gt, gf) (nI a) 0 2 := fun h => yw_ix (c := 3) (by omega) (by decide) (fun _ _ _ => h) (fun hx => absurd ⟨a, ha, rfl⟩ hx)
    refine br_f (by decide) (br_c (fun g => ?_) (fun g => br_c (fun b => ?_) (fun b => ?_)))
    · unfold wpY_section
      exact inA (br_f (by decide) (br_t g (br_t rfl ⟨rfl, I'⟩)))
    · have b0 : (-8 : Int32) ≤ v2 := Int32.not_lt.mp g
      have d1 : -8 ≤ v2.toInt := by
        have := Int32.le_iff_toInt_le.mp b0
        rwa [show (-8 : Int32).toInt = -8 by decide] at this
      have d2 : v2.toInt ≤ 8 := by
        have := Int32.le_iff_toInt_le.mp b
        rwa [show (8 : Int32).toInt = 8 by decide] at this
      have ev : v2 = nu_I v2.toInt := nu_of v2
      have en : -v2 = nu_I (-v2.toInt) := by rw [← nu_neg, ← ev]
      generalize v2.toInt = d at *
      have q0 : rl_se (rl_Q M D) (6 + n) a d (6 + n) = rl_ax a 1 d := by
        unfold rl_se
        rw [if_neg (by omega), if_pos rfl]
      have q1 : rl_se (rl_Q M D) (6 + n) a d (6 + n + 1) = rl_ax a (-1) (-d) := by
        unfold rl_se
        rw [if_neg (by omega), if_neg (by omega)]
      have ql : ∀ i, i < 6 + n → rl_Q M D i = rl_se (rl_Q M D) (6 + n) a d i := fun i hi => (if_pos hi).symm
      have hok : ∀ i, i < 6 + n + 1 + 1 → gm_ok (rl_se (rl_Q M D) (6 + n) a d i) := by
        intro i hi
        by_cases e : i < 6 + n
        · rw [← ql i e]; exact (rl_Q_ok hR.1 i e).1
        · by_cases e2 : i = 6 + n
          · subst e2; rw [q0]; exact rl_ax_ok (by omega) (by omega) d1 d2
          · have : i = 6 + n + 1 := by omega
            subst this; rw [q1]; exact rl_ax_ok (by omega) (by omega) (by omega) (by omega)
      refine nm_r (xw_66 n) (xw_across (s := 1) (d := d) (by decide) ev (by omega) ha (fun pl1 h1 => ?_))
      dsimp only
      rw [xw_a1 (6 + n), xw_a2 (6 + n)]
      refine xw_across (s := -1) (d := -d) (by decide) en (by omega) ha (fun pl2 h2 => ?_)
      have hC2 : xw_C pl2 (6 + n + 1 + 1) (rl_se (rl_Q M D) (6 + n) a d) := xw_ap_C h2 (xw_ap_C h1 (xw_C_cg hR.2.2 ql) q0) q1
      have hR2 : rl_R n M D pl2 nr nb := ⟨hR.1, hR.2.1, xw_ap_lo h2 (by omega) (xw_ap_lo h1 (by omega) hR.2.2)⟩
      refine xw_find (xw_L0 (n := 6 + n + 1 + 1) (by omega)) hC2 (by omega) hok (fun c f co tt hc hL hC hT => ?_)
      rw [xw_ac0] at hL
      unfold wpY_section
      refine inA (br_f (by decide) (br_f g (br_f (Int32.not_lt.mpr b) (br_f (by decide) ?_))))
      refine yw_set hR.1 hR.2.1 (fun gu gv gw gd g1 => ?_)
      refine yw_addA (s := 1) (d := d) (by decide) ev ha (by omega) (yw_A_cg g1 ql) q0 (fun gu gv gw gd g2 => ?_)
      refine yw_addA (s := -1) (d := -d) (by decide) en ha (by omega) g2 q1 (fun gu gv gw gd g3 => ?_)
      exact yw_fc2 g3 (by omega) hok hL (fun gx gy gz gb gt _ _ => ⟨rfl, n, M, D, rfl, rfl, hR2⟩)
    · unfold wpY_section
      exact inA (br_f (by decide) (br_f g (br_t (Int32.not_le.mp b) (br_t rfl ⟨rfl, I'⟩))))
  · refine br_t rfl ?_
    unfold wpY_section
    exact yw_ix (c := 3) (by omega) (by decide) (fun j hj ej => absurd ⟨j, hj, ej⟩ hx) (fun _ => br_t rfl ⟨rfl, I'⟩)
end
