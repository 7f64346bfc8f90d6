/-! the reference's outer points, and shadow -/
section
variable {fn fp fk : Int32} {nr nb gu gv gw gd gx gy gz gb gt gf : Nat → Int32} {f : Nat → gm_V} {c a : Nat}
/-- the two coordinates that are left -/
def sd_u (a : Nat) : Nat := if a = 0 then 1 else 0
def sd_v (a : Nat) : Nat := if a = 2 then 1 else 2
theorem sd_uv (a : Nat) : sd_u a < 3 ∧ sd_v a < 3 := by
  unfold sd_u sd_v
  constructor <;> split <;> omega
theorem yw_flat0 {post : Int32 → Prop} (hC : yw_A gx gy gz gb c f) (hc : c ≤ 32) (ha : a < 3) {k : Nat} (hk : k < c) (h : post (nu_I (sd_x f (sd_u a) k))) : wpY_flat post (fn, fp, fk, nr, nb, gu, gv, gw, gd, gx, gy, gz, gb, gt, gf) (nI k) (nI a) 0 := by
  have v := vp_in_nI (n := k) (N := 40) (by omega) (by omega)
  obtain ⟨k0, k1, k2, k3⟩ := hC k hk
  unfold wpY_flat
  dsimp only
  rw [nI_clamp (by omega), k0, k1]
  unfold sd_u at h
  by_cases e : a = 0
  · subst e
    exact br_t rfl (br_t rfl ⟨v, h⟩)
  · rw [if_neg e] at h
    exact br_t rfl (br_f (nI_ne0 (by omega) (by omega)) ⟨v, h⟩)
theorem yw_flat1 {post : Int32 → Prop} (hC : yw_A gx gy gz gb c f) (hc : c ≤ 32) (ha : a < 3) {k : Nat} (hk : k < c) (h : post (nu_I (sd_x f (sd_v a) k))) : wpY_flat post (fn, fp, fk, nr, nb, gu, gv, gw, gd, gx, gy, gz, gb, gt, gf) (nI k) (nI a) 1 := by
  have v := vp_in_nI (n := k) (N := 40) (by omega) (by omega)
  obtain ⟨k0, k1, k2, k3⟩ := hC k hk
  unfold wpY_flat
  dsimp only
  rw [nI_clamp (by omega), k1, k2]
  unfold sd_v at h
  by_cases e : a = 2
  · subst e
    exact br_f (by decide) (br_t rfl ⟨v, h⟩)
  · rw [if_neg e] at h
    exact br_f (by decide) (br_f (fun z => e ((nI_eq (b := 2) (by omega) (by omega)).mp z)) ⟨v, h⟩)
theorem yw_ap0 {post : Int64 → Prop} (hC : yw_A gx gy gz gb c f) (hc : c ≤ 32) (ha : a < 3) {j k : Nat} (hj : j < c) (hk : k < c) (hb : ∀ j, j < c → gm_bd (f j))
    (h : post (nu_L (sh_u (sd_x f (sd_u a)) (sd_w f) k j))) : wpY_apart post (fn, fp, fk, nr, nb, gu, gv, gw, gd, gx, gy, gz, gb, gt, gf) (nI j) (nI k) (nI a) 0 := by
  have vj := vp_in_nI (n := j) (N := 40) (by omega) (by omega)
  have vk := vp_in_nI (n := k) (N := 40) (by omega) (by omega)
  have u3 := (sd_uv a).1
  have bj := gm_c_bd (hb j hj) u3
  have bk := gm_c_bd (hb k hk) u3
  have wj := (hb j hj).2.2.2
  have wk := (hb k hk).2.2.2
  unfold wpY_apart
  refine yw_flat0 hC hc ha hj ⟨vk, yw_flat0 hC hc ha hk ⟨vj, ?_⟩⟩
  unfold sd_x
  rw [nI_clamp (by omega), nI_clamp (by omega), (hC j hj).2.2.2, (hC k hk).2.2.2, nu_64 (by omega) (by omega), nu_64 (by omega) (by omega), nu_64 (by omega) (by omega), nu_64 (by omega) (by omega), nu_Lmul, nu_Lmul, nu_Lsub]
  exact h
theorem yw_ap1 {post : Int64 → Prop} (hC : yw_A gx gy gz gb c f) (hc : c ≤ 32) (ha : a < 3) {j k : Nat} (hj : j < c) (hk : k < c) (hb : ∀ j, j < c → gm_bd (f j))
    (h : post (nu_L (sh_u (sd_x f (sd_v a)) (sd_w f) k j))) : wpY_apart post (fn, fp, fk, nr, nb, gu, gv, gw, gd, gx, gy, gz, gb, gt, gf) (nI j) (nI k) (nI a) 1 := by
  have vj := vp_in_nI (n := j) (N := 40) (by omega) (by omega)
  have vk := vp_in_nI (n := k) (N := 40) (by omega) (by omega)
  have u3 := (sd_uv a).2
  have bj := gm_c_bd (hb j hj) u3
  have bk := gm_c_bd (hb k hk) u3
  have wj := (hb j hj).2.2.2
  have wk := (hb k hk).2.2.2
  unfold wpY_apart
  refine yw_flat1 hC hc ha hj ⟨vk, yw_flat1 hC hc ha hk ⟨vj, ?_⟩⟩
  unfold sd_x
  rw [nI_clamp (by omega), nI_clamp (by omega), (hC j hj).2.2.2, (hC k hk).2.2.2, nu_64 (by omega) (by omega), nu_64 (by omega) (by omega), nu_64 (by omega) (by omega), nu_64 (by omega) (by omega), nu_Lmul, nu_Lmul, nu_Lsub]
  exact h
theorem sd_u_bd {u : Nat} (hu : u < 3) {j k : Nat} (bj : gm_bd (f j)) (bk : gm_bd (f k)) : -4423680 ≤ sh_u (sd_x f u) (sd_w f) k j ∧ sh_u (sd_x f u) (sd_w f) k j ≤ 4423680 := sd_o_bd (f := f) hu bj bk
theorem yw_same {post : Int32 → Prop} (hC : yw_A gx gy gz gb c f) (hc : c ≤ 32) (ha : a < 3) {j k : Nat} (hj : j < c) (hk : k < c) (hb : ∀ j, j < c → gm_bd (f j))
    (h1 : sh_sm (sd_x f (sd_u a)) (sd_x f (sd_v a)) (sd_w f) j k → post 1) (h0 : ¬ sh_sm (sd_x f (sd_u a)) (sd_x f (sd_v a)) (sd_w f) j k → post 0) : wpY_isSame post (fn, fp, fk, nr, nb, gu, gv, gw, gd, gx, gy, gz, gb, gt, gf) (nI j) (nI k) (nI a) := by
  have b0 := sd_u_bd (f := f) (sd_uv a).1 (hb j hj) (hb k hk)
  have b1 := sd_u_bd (f := f) (sd_uv a).2 (hb j hj) (hb k hk)
  unfold wpY_isSame
  refine yw_ap0 hC hc ha hj hk hb (br_c (fun e => ?_) (fun e => ?_))
  · have z := (nu_Leq0 (by omega) (by omega)).mp e
    refine yw_ap1 hC hc ha hj hk hb (br_c (fun g => h1 ?_) (fun g => h0 (fun s => g ?_)))
    · exact sh_sm_u.mpr ⟨z, (nu_Leq0 (by omega) (by omega)).mp g⟩
    · exact (nu_Leq0 (by omega) (by omega)).mpr (sh_sm_u.mp s).2
  · exact h0 (fun s => e ((nu_Leq0 (by omega) (by omega)).mpr (sh_sm_u.mp s).1))
/-- q bounds what is seen from k -/
def sd_B (x y w : Nat → Int) (c k q : Nat) : Prop := ∀ j, j < c → ¬ sh_sm x y w j k → 0 < sh_C x y w k q j ∨ (sh_C x y w k q j = 0 ∧ 0 ≤ sh_T x y w k q j)
theorem yw_bo23 {post : Int32 → Prop} (hC : yw_A gx gy gz gb c f) (hc : c ≤ 32) (ha : a < 3) {k q : Nat} (hk : k < c) (hq : q < c) (hb : ∀ j, j < c → gm_bd (f j))
    (h1 : sd_B (sd_x f (sd_u a)) (sd_x f (sd_v a)) (sd_w f) c k q → post 1) (h0 : ¬ sd_B (sd_x f (sd_u a)) (sd_x f (sd_v a)) (sd_w f) c k q → post 0) :
    ∀ d j : Nat, j + d = c → (∀ i, i < j → ¬ sh_sm (sd_x f (sd_u a)) (sd_x f (sd_v a)) (sd_w f) i k → 0 < sh_C (sd_x f (sd_u a)) (sd_x f (sd_v a)) (sd_w f) k q i ∨
        (sh_C (sd_x f (sd_u a)) (sd_x f (sd_v a)) (sd_w f) k q i = 0 ∧ 0 ≤ sh_T (sd_x f (sd_u a)) (sd_x f (sd_v a)) (sd_w f) k q i)) →
      wY_bounds_23 post (nI k) (nI a) (nu_L (sh_u (sd_x f (sd_u a)) (sd_w f) k q)) (nu_L (sh_u (sd_x f (sd_v a)) (sd_w f) k q)) fn fp (nI c) nr nb gu gv gw gd gx gy gz gb gt gf (d + 1) (nI j) := by
  intro d
  induction d with
  | zero =>
    intro j hj hI
    have : j = c := by omega
    subst this
    exact br_t (nI_le (Nat.le_refl _) (by omega)) (h1 hI)
  | succ d ih =>
    intro j hj hI
    have nx : (¬ sh_sm (sd_x f (sd_u a)) (sd_x f (sd_v a)) (sd_w f) j k → 0 < sh_C (sd_x f (sd_u a)) (sd_x f (sd_v a)) (sd_w f) k q j ∨
        (sh_C (sd_x f (sd_u a)) (sd_x f (sd_v a)) (sd_w f) k q j = 0 ∧ 0 ≤ sh_T (sd_x f (sd_u a)) (sd_x f (sd_v a)) (sd_w f) k q j)) →
        ∀ z, z = nI j + 1 → wY_bounds_23 post (nI k) (nI a) (nu_L (sh_u (sd_x f (sd_u a)) (sd_w f) k q)) (nu_L (sh_u (sd_x f (sd_v a)) (sd_w f) k q)) fn fp (nI c) nr nb gu gv gw gd gx gy gz gb gt gf (d + 1) z := by
      intro g
      refine nm_r (nI_1 j) (ih (j + 1) (by omega) (fun i hi => ?_))
      by_cases e : i = j
      · subst e; exact g
      · exact hI i (by omega)
    refine br_f (nI_ge (by omega) (by omega)) (yw_same hC hc ha (by omega) hk hb (fun s => ?_) (fun s => ?_))
    · exact br_f (by decide) (nx (fun z => absurd s z))
    · refine br_t rfl (yw_ap0 hC hc ha (by omega) hk hb (yw_ap1 hC hc ha (by omega) hk hb ?_))
      have q0 := sd_u_bd (f := f) (sd_uv a).1 (hb q hq) (hb k hk)
      have q1 := sd_u_bd (f := f) (sd_uv a).2 (hb q hq) (hb k hk)
      have j0 := sd_u_bd (f := f) (sd_uv a).1 (hb j (by omega)) (hb k hk)
      have j1 := sd_u_bd (f := f) (sd_uv a).2 (hb j (by omega)) (hb k hk)
      have p1 := nu_pb (A := 4423680) (B := 4423680) q0.1 q0.2 j1.1 j1.2
      have p2 := nu_pb (A := 4423680) (B := 4423680) q1.1 q1.2 j0.1 j0.2
      have p3 := nu_pb (A := 4423680) (B := 4423680) q0.1 q0.2 j0.1 j0.2
      have p4 := nu_pb (A := 4423680) (B := 4423680) q1.1 q1.2 j1.1 j1.2
      have eC : sh_C (sd_x f (sd_u a)) (sd_x f (sd_v a)) (sd_w f) k q j = sh_u (sd_x f (sd_u a)) (sd_w f) k q * sh_u (sd_x f (sd_v a)) (sd_w f) k j - sh_u (sd_x f (sd_v a)) (sd_w f) k q * sh_u (sd_x f (sd_u a)) (sd_w f) k j := rfl
      have eT : sh_T (sd_x f (sd_u a)) (sd_x f (sd_v a)) (sd_w f) k q j = sh_u (sd_x f (sd_u a)) (sd_w f) k q * sh_u (sd_x f (sd_u a)) (sd_w f) k j + sh_u (sd_x f (sd_v a)) (sd_w f) k q * sh_u (sd_x f (sd_v a)) (sd_w f) k j := rfl
      rw [nu_Lmul, nu_Lmul, nu_Lmul, nu_Lmul, nu_Lsub, nu_Ladd, ← eC, ← eT]
      refine nm_e (br_c (fun g => ?_) (fun g => br_c (fun e => br_c (fun t => ?_) (fun t => ?_)) (fun e => ?_)))
      · have g' := (nu_Llt0 (by omega) (by omega)).mp g
        exact h0 (fun B => by have := B j (by omega) s; omega)
      · have e' := (nu_Leq0 (by omega) (by omega)).mp e
        have t' := (nu_Lge0 (by omega) (by omega)).mp t
        exact nx (fun _ => .inr ⟨e', t'⟩)
      · have e' := (nu_Leq0 (by omega) (by omega)).mp e
        have t' := (not_congr (nu_Lge0 (by omega) (by omega))).mp t
        exact h0 (fun B => by have := B j (by omega) s; omega)
      · have g' := (not_congr (nu_Llt0 (by omega) (by omega))).mp g
        have e' := (not_congr (nu_Leq0 (by omega) (by omega))).mp e
        exact nx (fun _ => .inl (by omega))
theorem yw_bo {post : Int32 → Prop} (hC : yw_A gx gy gz gb c f) (hc : c ≤ 32) (ha : a < 3) {k q : Nat} (hk : k < c) (hq : q < c) (hb : ∀ j, j < c → gm_bd (f j))
    (h1 : sd_B (sd_x f (sd_u a)) (sd_x f (sd_v a)) (sd_w f) c k q → post 1) (h0 : ¬ sd_B (sd_x f (sd_u a)) (sd_x f (sd_v a)) (sd_w f) c k q → post 0) : wpY_bounds post (fn, fp, nI c, nr, nb, gu, gv, gw, gd, gx, gy, gz, gb, gt, gf) (nI k) (nI q) (nI a) := by
  unfold wpY_bounds
  exact yw_ap0 hC hc ha hq hk hb (yw_ap1 hC hc ha hq hk hb ⟨c + 1, yw_bo23 hC hc ha hk hq hb h1 h0 c 0 (by omega) (fun i hi => by omega)⟩)
theorem yw_ou5 {post : Int32 → Prop} (hC : yw_A gx gy gz gb c f) (hc : c ≤ 32) (ha : a < 3) {k : Nat} (hk : k < c) (hb : ∀ j, j < c → gm_bd (f j)) (hw : ∀ j, j < c → 0 < sd_w f j)
    (h1 : sh_E (sd_x f (sd_u a)) (sd_x f (sd_v a)) (sd_w f) c k → post 1) (h0 : ¬ sh_E (sd_x f (sd_u a)) (sd_x f (sd_v a)) (sd_w f) c k → post 0) :
    ∀ (d q : Nat) (z : Int32), q + d = c → (∀ i, i < q → ¬ sh_sm (sd_x f (sd_u a)) (sd_x f (sd_v a)) (sd_w f) i k → ¬ sd_B (sd_x f (sd_u a)) (sd_x f (sd_v a)) (sd_w f) c k i) →
      ((z = 1 ∧ ∀ i, i < q → sh_sm (sd_x f (sd_u a)) (sd_x f (sd_v a)) (sd_w f) i k) ∨ (z = 0 ∧ ¬ ∀ i, i < q → sh_sm (sd_x f (sd_u a)) (sd_x f (sd_v a)) (sd_w f) i k)) →
      wY_isOuter_5 post (nI k) (nI a) fn fp (nI c) nr nb gu gv gw gd gx gy gz gb gt gf (d + 1) z (nI q) := by
  intro d
  induction d with
  | zero =>
    intro q z hq hI hz
    have : q = c := by omega
    subst this
    refine br_t (nI_le (Nat.le_refl _) (by omega)) ?_
    rcases hz with ⟨rfl, g⟩ | ⟨rfl, g⟩
    · exact ⟨rfl, h1 ((sd_EO hw).mpr (.inl g))⟩
    · refine ⟨rfl, h0 (fun E => ?_)⟩
      rcases (sd_EO hw).mp E with y | ⟨i, hi, ni, hB⟩
      · exact g y
      · exact hI i hi ni hB
  | succ d ih =>
    intro q z hq hI hz
    refine br_f (nI_ge (by omega) (by omega)) (yw_same hC hc ha (by omega) hk hb (fun s => ?_) (fun s => ?_))
    · refine br_f (by decide) (nm_r (nI_1 q) (ih (q + 1) z (by omega) (fun i hi ni => ?_) ?_))
      · by_cases e : i = q
        · subst e; exact absurd s ni
        · exact hI i (by omega) ni
      · rcases hz with ⟨e1, g⟩ | ⟨e1, g⟩
        · refine .inl ⟨e1, fun i hi => ?_⟩
          by_cases e : i = q
          · subst e; exact s
          · exact g i (by omega)
        · exact .inr ⟨e1, fun y => g (fun i hi => y i (by omega))⟩
    · refine br_t rfl (yw_bo hC hc ha hk (by omega) hb (fun B => ?_) (fun B => ?_))
      · exact br_f (by decide) (h1 ((sd_EO hw).mpr (.inr ⟨q, by omega, s, B⟩)))
      · refine br_t rfl (nm_r (nI_1 q) (ih (q + 1) 0 (by omega) (fun i hi ni => ?_) (.inr ⟨rfl, fun y => s (y q (by omega))⟩)))
        by_cases e : i = q
        · subst e; exact B
        · exact hI i (by omega) ni
theorem yw_ou {post : Int32 → Prop} (hC : yw_A gx gy gz gb c f) (hc : c ≤ 32) (ha : a < 3) {k : Nat} (hk : k < c) (hb : ∀ j, j < c → gm_bd (f j)) (hw : ∀ j, j < c → 0 < sd_w f j)
    (h1 : sh_E (sd_x f (sd_u a)) (sd_x f (sd_v a)) (sd_w f) c k → post 1) (h0 : ¬ sh_E (sd_x f (sd_u a)) (sd_x f (sd_v a)) (sd_w f) c k → post 0) : wpY_isOuter post (fn, fp, nI c, nr, nb, gu, gv, gw, gd, gx, gy, gz, gb, gt, gf) (nI k) (nI a) :=
  ⟨c + 1, yw_ou5 hC hc ha hk hb hw h1 h0 c 0 1 (by omega) (fun i hi => by omega) (.inl ⟨rfl, fun i hi => by omega⟩)⟩
/-- first of its kind and outer -/
def sd_P (x y w : Nat → Int) (c k : Nat) : Prop := (∀ j, j < k → ¬ sh_sm x y w j k) ∧ sh_E x y w c k
theorem yw_sd35 {post : Int32 → SY → Prop} {J : Int32 → Int32 → Prop} {x2 : Int32} (hC : yw_A gx gy gz gb c f) (hc : c ≤ 32) (ha : a < 3) {k : Nat} (hk : k < c) (hb : ∀ j, j < c → gm_bd (f j)) (hw : ∀ j, j < c → 0 < sd_w f j)
    (h1 : sd_P (sd_x f (sd_u a)) (sd_x f (sd_v a)) (sd_w f) c k → J (x2 + 1) (nI (k + 1))) (h0 : ¬ sd_P (sd_x f (sd_u a)) (sd_x f (sd_v a)) (sd_w f) c k → J x2 (nI (k + 1))) :
    ∀ (d j : Nat) (z : Int32), j + d = k → ((z = 1 ∧ ∀ i, i < j → ¬ sh_sm (sd_x f (sd_u a)) (sd_x f (sd_v a)) (sd_w f) i k) ∨ (z = 0 ∧ ¬ ∀ i, i < j → ¬ sh_sm (sd_x f (sd_u a)) (sd_x f (sd_v a)) (sd_w f) i k)) →
      wY_shadow_35 post J (nI a) x2 (nI k) fn fp (nI c) nr nb gu gv gw gd gx gy gz gb gt gf (d + 1) z (nI j) := by
  intro d
  induction d with
  | zero =>
    intro j z hj hz
    have : j = k := by omega
    subst this
    refine br_t (nI_le (Nat.le_refl _) (by omega)) ?_
    rcases hz with ⟨rfl, g⟩ | ⟨rfl, g⟩
    · refine br_f (by decide) (yw_ou hC hc ha hk hb hw (fun E => ?_) (fun E => ?_))
      · exact br_f (by decide) (nm_e (nm_r (nI_1 j) (h1 ⟨g, E⟩)))
      · exact br_t rfl (nm_r (nI_1 j) (h0 (fun z => E z.2)))
    · exact br_t rfl (nm_r (nI_1 j) (h0 (fun z => g z.1)))
  | succ d ih =>
    intro j z hj hz
    refine br_f (nI_ge (by omega) (by omega)) (yw_same hC hc ha (by omega) hk hb (fun s => ?_) (fun s => ?_))
    · exact br_f (by decide) (nm_r (nI_1 j) (ih (j + 1) 0 (by omega) (.inr ⟨rfl, fun y => y j (by omega) s⟩)))
    · refine br_t rfl (nm_r (nI_1 j) (ih (j + 1) z (by omega) ?_))
      rcases hz with ⟨e1, g⟩ | ⟨e1, g⟩
      · refine .inl ⟨e1, fun i hi => ?_⟩
        by_cases e : i = j
        · subst e; exact s
        · exact g i (by omega)
      · exact .inr ⟨e1, fun y => g (fun i hi => y i (by omega))⟩
theorem yw_sd21 {post : Int32 → SY → Prop} (hC : yw_A gx gy gz gb c f) (hc : c ≤ 32) (ha : a < 3) (hb : ∀ j, j < c → gm_bd (f j)) (hw : ∀ j, j < c → 0 < sd_w f j)
    (h : post (nI (sd_n (sd_x f (sd_u a)) (sd_x f (sd_v a)) (sd_w f) c)) (fn, fp, nI c, nr, nb, gu, gv, gw, gd, gx, gy, gz, gb, gt, gf)) :
    ∀ d k : Nat, k + d = c → wY_shadow_21 post (nI a) fn fp (nI c) nr nb gu gv gw gd gx gy gz gb gt gf (d + 1) (nI (gm_cn (sd_P (sd_x f (sd_u a)) (sd_x f (sd_v a)) (sd_w f) c) k)) (nI k) := by
  intro d
  induction d with
  | zero =>
    intro k hk
    have : k = c := by omega
    subst this
    exact br_t (nI_le (Nat.le_refl _) (by omega)) h
  | succ d ih =>
    intro k hk
    have nx := ih (k + 1) (by omega)
    refine br_f (nI_ge (by omega) (by omega)) ⟨k + 1, yw_sd35 hC hc ha (by omega) hb hw (fun p => ?_) (fun p => ?_) k 0 1 (by omega) (.inl ⟨rfl, fun i hi => by omega⟩)⟩
    · rw [gm_cn_t p] at nx
      rw [nI_1]; exact nx
    · rw [gm_cn_f p] at nx
      exact nx
theorem i_vc_shadow {k : Nat} {u : SX} {v : SY} (I : i_Rel k u v) (hk : k + 3 ≤ 1536) (v1 : Int32) : wpX_shadow (fun r u' => wpY_shadow (fun r' v' => r' = r ∧ i_Rel (k + 3) u' v') v v1) u v1 := by
  obtain ⟨fc, ff, pl, co, tt, st⟩ := u
  obtain ⟨fn, fp, fk, nr, nb, gu, gv, gw, gd, gx, gy, gz, gb, gt, gf⟩ := v
  have I' := I
  obtain ⟨n, M, D, e1, e2, hR⟩ := I
  dsimp only at e1 e2 hR
  subst e1 e2
  have hn8 := hR.1.1
  unfold wpX_shadow
  refine xw_isA (fun a ha ea => ?_) (fun hx => ?_)
  · subst ea
    refine br_f (by decide) (xw_body hR (fun c f co tt hc hL hC hT => ?_))
    have hbd : ∀ k, k < c → gm_bd (f k) := fun k hk => gm_vt_bd (fun i hi => (rl_Q_ok hR.1 i hi).1) (hL.1 k hk)
    have hw : ∀ k, k < c → 0 < sd_w f k := fun k hk => (hL.1 k hk).1.1
    have Y : ∀ r : Int32, r = nI (sd_n (sd_x f (sd_u a)) (sd_x f (sd_v a)) (sd_w f) c) → wpY_shadow (fun r' v' => r' = r ∧ i_Rel (k + 3) (nI n, nI c, pl, co, tt, st) v') (nI n, fp, fk, nr, nb, gu, gv, gw, gd, gx, gy, gz, gb, gt, gf) (nI a) := by
      intro r er
      unfold wpY_shadow
      refine yw_ix (c := 3) (by omega) (by decide) (fun _ _ _ => br_f (by decide) ?_) (fun hx => absurd ⟨a, ha, rfl⟩ hx)
      refine yw_find2 hR hL (fun gu gv gw gd gx gy gz gb gt g1 g2 g3 => ?_)
      exact ⟨c + 1, yw_sd21 g2 hc ha hbd hw ⟨er.symm, n, M, D, rfl, rfl, hR⟩ c 0 (by omega)⟩
    by_cases e : c = 0
    · refine br_t (by rw [e]; rfl) (Y 0 ?_)
      subst e
      rfl
    · refine br_f (nI_ne0 (by omega) (by omega)) ?_
      have H := xw_rs (post := fun r => wpY_shadow (fun r' v' => r' = r ∧ i_Rel (k + 3) (nI n, nI c, pl, co, tt, st) v') (nI n, fp, fk, nr, nb, gu, gv, gw, gd, gx, gy, gz, gb, gt, gf) (nI a)) (fc := nI n) (pl := pl) (tt := tt) (st := st) hC hc e (sd_uv a).1 (sd_uv a).2 hbd hw (Y _ rfl)
      have : a = 0 ∨ a = 1 ∨ a = 2 := by omega
      rcases this with z | z | z
      · subst z
        exact br_t rfl (br_f (by decide) H)
      · subst z
        exact br_f (by decide) (br_f (by decide) H)
      · subst z
        exact br_f (by decide) (br_t rfl H)
  · refine br_t rfl ?_
    unfold wpY_shadow
    exact yw_ix (c := 3) (by omega) (by decide) (fun j hj ej => absurd ⟨j, hj, ej⟩ hx) (fun _ => br_t rfl ⟨rfl, I'⟩)
end
