/-! The reference tries a point -/
section
theorem yw_g4 (p : gm_V) : Nat.gcd (Nat.gcd (Nat.gcd p.1.natAbs p.2.1.natAbs) p.2.2.2.natAbs) p.2.2.1.natAbs = gm_g4 p := by
  unfold gm_g4
  rw [Nat.gcd_comm (Nat.gcd p.1.natAbs p.2.1.natAbs) p.2.2.2.natAbs, ← Nat.gcd_assoc]
theorem yw_q {p : gm_V} (hw : 0 < p.2.2.2) : gm_q p = gm_g4 p := by unfold gm_q; rw [if_neg (by omega)]
theorem yw_red_neg {p : gm_V} (hw : p.2.2.2 < 0) : gm_red (-p.1, -p.2.1, -p.2.2.1, -p.2.2.2) = gm_red p := by
  have e : gm_g4 (-p.1, -p.2.1, -p.2.2.1, -p.2.2.2) = gm_g4 p := by simp only [gm_g4, Int.natAbs_neg]
  have e1 : gm_q (-p.1, -p.2.1, -p.2.2.1, -p.2.2.2) = (gm_g4 p : Int) := by
    unfold gm_q
    rw [e]
    dsimp only
    rw [if_neg (by omega)]
  have e2 : gm_q p = -(gm_g4 p : Int) := by unfold gm_q; rw [if_pos hw]
  simp only [gm_red, e1, e2, Int.neg_tdiv, Int.tdiv_neg]

variable {fn fp fk : Int32} {nr nb gu gv gw gd gx gy gz gb gt gf : Nat → Int32} {Q f : Nat → gm_V} {n c : Nat}
theorem yw_r89 {post : SY → Prop} {k : Nat} {p : gm_V} (hk : k < 40) (hb : gm_bd p) (hw : 0 < p.2.2.2)
    (h1 : gx k = nu_I p.1) (h2 : gy k = nu_I p.2.1) (h3 : gz k = nu_I p.2.2.1) (h4 : gb k = nu_I p.2.2.2)
    (h : post (fn, fp, fk, nr, nb, gu, gv, gw, gd, upd gx k (nu_I (gm_red p).1), upd gy k (nu_I (gm_red p).2.1), upd gz k (nu_I (gm_red p).2.2.1), upd gb k (nu_I (gm_red p).2.2.2), gt, gf)) :
    wY_reduce_89 post (nI k) (nI (gm_g4 p)) (nI (gm_g4 p)) (gx k) (nI k) fn fp fk nr nb gu gv gw gd gx gy gz gb gt gf := by
  have hg := gm_g4_pos (p := p) (by omega)
  have hl := gm_g4_le (p := p) (by omega)
  obtain ⟨b1, b2, b3, b4⟩ := hb
  have vk := vp_in_nI (n := k) (N := 40) hk (by omega)
  have hz : ¬ nI (gm_g4 p) = 0 := nI_ne0 hg (by omega)
  have h1' : (1 : Int32) ≤ nI (gm_g4 p) := nI_le (a := 1) hg (by omega)
  have hq := yw_q hw
  have d : ∀ x : Int, -5760 ≤ x → x ≤ 5760 → nu_I x / nI (gm_g4 p) = nu_I (x.tdiv (gm_q p)) := by
    intro x x1 x2
    rw [nu_nI, nu_div (by omega) (by omega) (by omega) (by omega), hq]
  refine ⟨hz, vk, nm_e ⟨vk, br_t h1' ?_⟩⟩
  refine ⟨hz, vk, nm_e ⟨vk, br_t h1' ?_⟩⟩
  refine ⟨hz, vk, nm_e ⟨vk, br_t h1' ⟨hz, vk, nm_e ?_⟩⟩⟩
  rw [nI_clamp (by omega), h1, h2, h3, h4, d _ (by omega) (by omega), d _ (by omega) (by omega), d _ (by omega) (by omega), d _ (by omega) (by omega)]
  exact h
theorem yw_r55 {post : SY → Prop} {k : Nat} {p : gm_V} {g : Int} (hk : k < 40) (hb : gm_bd p) (hw : 0 < p.2.2.2)
    (h1 : gx k = nu_I p.1) (h2 : gy k = nu_I p.2.1) (h3 : gz k = nu_I p.2.2.1) (h4 : gb k = nu_I p.2.2.2) (hg : g.natAbs < 2 ^ 30) (he : Nat.gcd g.natAbs p.2.2.1.natAbs = gm_g4 p)
    (h : post (fn, fp, fk, nr, nb, gu, gv, gw, gd, upd gx k (nu_I (gm_red p).1), upd gy k (nu_I (gm_red p).2.1), upd gz k (nu_I (gm_red p).2.2.1), upd gb k (nu_I (gm_red p).2.2.2), gt, gf)) :
    wY_reduce_55 post (nI k) (nu_I g) fn fp fk nr nb gu gv gw gd gx gy gz gb gt gf := by
  have hg0 := gm_g4_pos (p := p) (by omega)
  have hl := gm_g4_le (p := p) (by omega)
  have b := hb
  obtain ⟨b1, b2, b3, b4⟩ := b
  have vk := vp_in_nI (n := k) (N := 40) hk (by omega)
  have h1' : (1 : Int32) ≤ nI (gm_g4 p) := nI_le (a := 1) hg0 (by omega)
  unfold wY_reduce_55
  rw [nI_clamp (by omega), h3]
  refine ⟨vk, yw_common hg (by omega) ?_⟩
  rw [he, if_neg (by omega)]
  exact ⟨vk, br_t h1' (yw_r89 hk hb hw h1 h2 h3 h4 h)⟩
theorem yw_r44 {post : SY → Prop} {k : Nat} {p : gm_V} (hk : k < 40) (hb : gm_bd p) (hw : 0 < p.2.2.2)
    (h1 : gx k = nu_I p.1) (h2 : gy k = nu_I p.2.1) (h3 : gz k = nu_I p.2.2.1) (h4 : gb k = nu_I p.2.2.2) (hn : Nat.gcd p.1.natAbs p.2.1.natAbs ≠ 0) (hs : Nat.gcd p.1.natAbs p.2.1.natAbs < 2 ^ 30)
    (h : post (fn, fp, fk, nr, nb, gu, gv, gw, gd, upd gx k (nu_I (gm_red p).1), upd gy k (nu_I (gm_red p).2.1), upd gz k (nu_I (gm_red p).2.2.1), upd gb k (nu_I (gm_red p).2.2.2), gt, gf)) :
    wY_reduce_44 post (nI k) (nI (Nat.gcd p.1.natAbs p.2.1.natAbs)) fn fp fk nr nb gu gv gw gd gx gy gz gb gt gf := by
  have b := hb
  obtain ⟨b1, b2, b3, b4⟩ := b
  have vk := vp_in_nI (n := k) (N := 40) hk (by omega)
  have l : Nat.gcd (Nat.gcd p.1.natAbs p.2.1.natAbs) p.2.2.2.natAbs ≤ p.2.2.2.natAbs := Nat.le_of_dvd (by omega) (Nat.gcd_dvd_right _ _)
  have l0 : 0 < Nat.gcd (Nat.gcd p.1.natAbs p.2.1.natAbs) p.2.2.2.natAbs := Nat.gcd_pos_of_pos_right _ (by omega)
  unfold wY_reduce_44
  rw [nI_clamp (by omega), h4, nu_nI (Nat.gcd p.1.natAbs p.2.1.natAbs)]
  refine ⟨vk, yw_common (a := (Nat.gcd p.1.natAbs p.2.1.natAbs : Nat)) (b := p.2.2.2) (by rw [Int.natAbs_natCast]; exact hs) (by omega) ?_⟩
  rw [Int.natAbs_natCast, if_neg (by omega), nu_nI (Nat.gcd (Nat.gcd p.1.natAbs p.2.1.natAbs) p.2.2.2.natAbs)]
  refine yw_r55 hk hb hw h1 h2 h3 h4 (by rw [Int.natAbs_natCast]; omega) ?_ h
  rw [Int.natAbs_natCast]
  exact yw_g4 p
theorem yw_reduce {post : SY → Prop} {k : Nat} {p : gm_V} (hk : k < 40) (hb : gm_bd p) (hw : 0 < p.2.2.2)
    (h1 : gx k = nu_I p.1) (h2 : gy k = nu_I p.2.1) (h3 : gz k = nu_I p.2.2.1) (h4 : gb k = nu_I p.2.2.2)
    (h : post (fn, fp, fk, nr, nb, gu, gv, gw, gd, upd gx k (nu_I (gm_red p).1), upd gy k (nu_I (gm_red p).2.1), upd gz k (nu_I (gm_red p).2.2.1), upd gb k (nu_I (gm_red p).2.2.2), gt, gf)) :
    wpY_reduce post (fn, fp, fk, nr, nb, gu, gv, gw, gd, gx, gy, gz, gb, gt, gf) (nI k) := by
  have b := hb
  obtain ⟨b1, b2, b3, b4⟩ := b
  have vk := vp_in_nI (n := k) (N := 40) hk (by omega)
  unfold wpY_reduce
  dsimp only
  rw [nI_clamp (by omega), h1, h2, h4]
  refine ⟨vk, vk, yw_common (by omega) (by omega) ⟨vk, br_c (fun e1 => ⟨vk, br_c (fun e2 => ⟨vk, ?_⟩) (fun e2 => ?_)⟩) (fun e1 => ?_)⟩⟩
  · have z1 := (nu_eq0 (by omega) (by omega)).mp e1
    have z2 := (nu_eq0 (by omega) (by omega)).mp e2
    refine yw_r55 hk hb hw h1 h2 h3 h4 (by omega) ?_ h
    rw [← yw_g4, z1, z2]
    simp
  · have z2 : p.2.1 ≠ 0 := fun z => e2 ((nu_eq0 (by omega) (by omega)).mpr z)
    have l0 : 0 < Nat.gcd p.1.natAbs p.2.1.natAbs := Nat.gcd_pos_of_pos_right _ (by omega)
    have l1 : Nat.gcd p.1.natAbs p.2.1.natAbs ≤ p.2.1.natAbs := Nat.le_of_dvd (by omega) (Nat.gcd_dvd_right _ _)
    rw [if_neg (by omega)]
    exact yw_r44 hk hb hw h1 h2 h3 h4 (by omega) (by omega) h
  · have z1 : p.1 ≠ 0 := fun z => e1 ((nu_eq0 (by omega) (by omega)).mpr z)
    have l0 : 0 < Nat.gcd p.1.natAbs p.2.1.natAbs := Nat.gcd_pos_of_pos_left _ (by omega)
    have l1 : Nat.gcd p.1.natAbs p.2.1.natAbs ≤ p.1.natAbs := Nat.le_of_dvd (by omega) (Nat.gcd_dvd_left _ _)
    rw [if_neg (by omega)]
    exact yw_r44 hk hb hw h1 h2 h3 h4 (by omega) (by omega) h

theorem yw_t178 {post : SY → Prop} (hC : yw_A gx gy gz gb (c + 1) f) (hc : c ≤ 32) (hb : ∀ k, k < c + 1 → gm_bd (f k))
    (h0 : (∃ m, m < c ∧ f m = f c) → post (fn, fp, nI c, nr, nb, gu, gv, gw, gd, gx, gy, gz, gb, gt, gf)) (h1 : (∀ m, m < c → f m ≠ f c) → post (fn, fp, nI (c + 1), nr, nb, gu, gv, gw, gd, gx, gy, gz, gb, gt, gf)) :
    ∀ d k : Nat, k + d = c → (∀ m, m < k → f m ≠ f c) → wY_tryPoint_178 post (nI c) fn fp (nI c) nr nb gu gv gw gd gx gy gz gb gt gf (d + 1) (nI k) := by
  intro d
  induction d with
  | zero =>
    intro k hk hI
    have : k = c := by omega
    subst this
    exact br_t (nI_le (Nat.le_refl _) (by omega)) (nm_r (nI_1 k) (h1 hI))
  | succ d ih =>
    intro k hk hI
    have vk := vp_in_nI (n := k) (N := 40) (by omega) (by omega)
    have vc := vp_in_nI (n := c) (N := 40) (by omega) (by omega)
    obtain ⟨k0, k1, k2, k3⟩ := hC k (by omega)
    obtain ⟨c0, c1, c2, c3⟩ := hC c (by omega)
    obtain ⟨b1, b2, b3, b4⟩ := hb k (by omega)
    obtain ⟨a1, a2, a3, a4⟩ := hb c (by omega)
    have nx : f k ≠ f c → ∀ z, z = nI k + 1 → wY_tryPoint_178 post (nI c) fn fp (nI c) nr nb gu gv gw gd gx gy gz gb gt gf (d + 1) z := by
      intro hne
      refine nm_r (nI_1 k) (ih (k + 1) (by omega) (fun m hm => ?_))
      by_cases e : m = k
      · subst e; exact hne
      · exact hI m (by omega)
    unfold wY_tryPoint_178
    rw [nI_clamp (by omega), nI_clamp (by omega), k0, k1, k2, k3, c0, c1, c2, c3]
    refine br_f (nI_ge (by omega) (by omega)) ⟨vk, vc, br_c (fun e0 => ⟨vk, vc, br_c (fun e1 => ⟨vk, vc, br_c (fun e2 => ⟨vk, vc, br_c (fun e3 => ?_) (fun e3 => ?_)⟩) (fun e2 => ?_)⟩) (fun e1 => ?_)⟩) (fun e0 => ?_)⟩
    · have z0 := (nu_eq (by omega) (by omega) (by omega) (by omega)).mp e0
      have z1 := (nu_eq (by omega) (by omega) (by omega) (by omega)).mp e1
      have z2 := (nu_eq (by omega) (by omega) (by omega) (by omega)).mp e2
      have z3 := (nu_eq (by omega) (by omega) (by omega) (by omega)).mp e3
      exact h0 ⟨k, by omega, Prod.ext z0 (Prod.ext z1 (Prod.ext z2 z3))⟩
    · exact nx (fun z => e3 (by rw [z]))
    · exact nx (fun z => e2 (by rw [z]))
    · exact nx (fun z => e1 (by rw [z]))
    · exact nx (fun z => e0 (by rw [z]))

theorem yw_t110 {post : SY → Prop} {p : gm_V} (hQ : yw_A gu gv gw gd n Q) (hn : n ≤ 16) (hok : ∀ i, i < n → gm_ok (Q i)) (hC : yw_A gx gy gz gb (c + 1) (ls_ins f p c)) (hc : c ≤ 32)
    (hb : ∀ k, k < c → gm_bd (f k)) (bp : gm_bd p) (pw : 0 < p.2.2.2)
    (h0 : ∀ gt', (∀ k, k < c → gt' k = gt k) → ¬ gm_In Q (fun s => s < n) (gm_red p) → post (fn, nI n, nI c, nr, nb, gu, gv, gw, gd, gx, gy, gz, gb, gt', gf))
    (h2 : ∀ gx gy gz gb gt', (∀ k, k < c → gt' k = gt k) → (∃ m, gt' c = nI m ∧ nu_ms m n (fun s => gm_ev (Q s) (gm_red p) = 0)) → gm_In Q (fun s => s < n) (gm_red p) →
      yw_A gx gy gz gb (c + 1) (ls_ins f (gm_red p) c) → (∃ m, m < c ∧ f m = gm_red p) → post (fn, nI n, nI c, nr, nb, gu, gv, gw, gd, gx, gy, gz, gb, gt', gf))
    (h3 : ∀ gx gy gz gb gt', (∀ k, k < c → gt' k = gt k) → (∃ m, gt' c = nI m ∧ nu_ms m n (fun s => gm_ev (Q s) (gm_red p) = 0)) → gm_In Q (fun s => s < n) (gm_red p) →
      yw_A gx gy gz gb (c + 1) (ls_ins f (gm_red p) c) → (∀ m, m < c → f m ≠ gm_red p) → post (fn, nI n, nI (c + 1), nr, nb, gu, gv, gw, gd, gx, gy, gz, gb, gt', gf)) :
    ∀ (d s : Nat) (gt' : Nat → Int32), s + d = n → (∀ k, k < c → gt' k = gt k) → (∃ m, gt' c = nI m ∧ nu_ms m s (fun s => gm_ev (Q s) (gm_red p) = 0)) → (∀ i, i < s → gm_ev (Q i) (gm_red p) ≤ 0) →
      wY_tryPoint_110 post (nI c) fn (nI n) (nI c) (d + 1) (nI s) nr nb gu gv gw gd gx gy gz gb gt' gf := by
  have fe : ls_ins f p c c = p := ls_ins_eq
  obtain ⟨c0, c1, c2, c3⟩ := hC c (by omega)
  rw [fe] at c0 c1 c2 c3
  have hq := yw_q pw
  have hg := gm_g4_pos (p := p) (by omega)
  intro d
  induction d with
  | zero =>
    intro s gt' hs h4 h5 h6
    have : s = n := by omega
    subst this
    refine br_t (nI_le (Nat.le_refl _) (by omega)) (yw_reduce (by omega) bp pw c0 c1 c2 c3 ?_)
    have hA : yw_A (upd gx c (nu_I (gm_red p).1)) (upd gy c (nu_I (gm_red p).2.1)) (upd gz c (nu_I (gm_red p).2.2.1)) (upd gb c (nu_I (gm_red p).2.2.2)) (c + 1) (ls_ins f (gm_red p) c) :=
      yw_put (fun k hk => by
        have := hC k (by omega)
        rwa [ls_ins_lo hk] at this)
    have fe2 : ls_ins f (gm_red p) c c = gm_red p := ls_ins_eq
    refine ⟨c + 1, yw_t178 hA hc (fun k hk => ?_) (fun hx => ?_) (fun hx => ?_) c 0 (by omega) (fun m hm => by omega)⟩
    · by_cases e : k = c
      · subst e; rw [fe2]; exact gm_red_bd bp
      · rw [ls_ins_lo (by omega)]; exact hb k (by omega)
    · refine h2 _ _ _ _ gt' h4 h5 h6 hA ?_
      obtain ⟨m, hm, e⟩ := hx
      rw [fe2, ls_ins_lo hm] at e
      exact ⟨m, hm, e⟩
    · refine h3 _ _ _ _ gt' h4 h5 h6 hA (fun m hm e => ?_)
      apply hx m hm
      rw [fe2, ls_ins_lo hm]
      exact e
  | succ d ih =>
    intro s gt' hs h4 h5 h6
    have vc := vp_in_nI (n := c) (N := 40) (by omega) (by omega)
    have eb := gm_ev_bd (hok s (by omega)) bp
    have er := gm_red_ev (Q s) p
    rw [hq] at er
    refine br_f (nI_ge (by omega) (by omega)) (yw_side hQ hn hC (by omega) (by omega) (by omega) (hok s (by omega)) (by rw [fe]; exact bp) ?_)
    rw [fe]
    refine br_c (fun g => br_c (fun e => ?_) (fun e => ?_)) (fun g => ?_)
    · have z := (nu_Leq0 (by omega) (by omega)).mp e
      have z' : gm_ev (Q s) (gm_red p) = 0 := (Int.mul_eq_zero.mp (er ▸ z)).resolve_left (by omega)
      obtain ⟨m, hm, hms⟩ := h5
      rw [nI_clamp (by omega), hm, nx_bitp (by omega), nx_or2]
      refine ⟨vc, vc, nm_e (nm_r (nI_1 s) (ih (s + 1) _ (by omega) (fun k hk => ?_) ⟨m ||| 2 ^ s, pk_us, nu_ms_t hms z'⟩ (fun i hi => ?_)))⟩
      · rw [pk_un (by omega)]; exact h4 k hk
      · by_cases ei : i = s
        · subst ei; omega
        · exact h6 i (by omega)
    · have z : gm_ev (Q s) p ≠ 0 := fun k => e ((nu_Leq0 (by omega) (by omega)).mpr k)
      have zl := (nu_Lle0 (by omega) (by omega)).mp g
      have z' : gm_ev (Q s) (gm_red p) ≠ 0 := fun k => z (by rw [er, k]; simp)
      have zl' : gm_ev (Q s) (gm_red p) ≤ 0 := by
        rcases Int.lt_or_le 0 (gm_ev (Q s) (gm_red p)) with k | k
        · have := gm_pp (a := (gm_g4 p : Int)) (by omega) k
          omega
        · exact k
      obtain ⟨m, hm, hms⟩ := h5
      refine nm_r (nI_1 s) (ih (s + 1) gt' (by omega) h4 ⟨m, hm, nu_ms_f hms z'⟩ (fun i hi => ?_))
      by_cases ei : i = s
      · subst ei; exact zl'
      · exact h6 i (by omega)
    · refine h0 gt' h4 (fun hin => g ((nu_Lle0 (by omega) (by omega)).mpr ?_))
      have := gm_np (a := (gm_g4 p : Int)) (by omega) (hin s (by omega))
      omega
end
