/-! The reference finds the list of the corners -/
section
variable {fn fp fk : Int32} {nr nb gu gv gw gd gx gy gz gb gt gf : Nat → Int32} {Q f : Nat → gm_V} {n c : Nat}
theorem yw_t25 {post : SY → Prop} {p q r : Nat} {sg : Int} (hQ : yw_A gu gv gw gd n Q) (hn : n ≤ 16) (hok : ∀ i, i < n → gm_ok (Q i)) (hC : yw_A gx gy gz gb c f) (hT : xw_T gt c n Q f) (hc : c ≤ 32)
    (hb : ∀ k, k < c → gm_bd (f k)) (hp : p < n) (hq : q < n) (hr : r < n) (hd : gm_dt (Q p) (Q q) (Q r) ≠ 0)
    (hsg : (sg = 1 ∧ 0 < gm_dt (Q p) (Q q) (Q r)) ∨ (sg = -1 ∧ gm_dt (Q p) (Q q) (Q r) < 0))
    (h0 : ∀ gx gy gz gb gt, yw_A gx gy gz gb c f → xw_T gt c n Q f → (gm_In Q (fun s => s < n) (gm_pt (Q p) (Q q) (Q r)) → ∃ m, m < c ∧ f m = gm_pt (Q p) (Q q) (Q r)) → post (fn, nI n, nI c, nr, nb, gu, gv, gw, gd, gx, gy, gz, gb, gt, gf))
    (h1 : ∀ gx gy gz gb gt, gm_In Q (fun s => s < n) (gm_pt (Q p) (Q q) (Q r)) → (∀ m, m < c → f m ≠ gm_pt (Q p) (Q q) (Q r)) →
      yw_A gx gy gz gb (c + 1) (ls_ins f (gm_pt (Q p) (Q q) (Q r)) c) → xw_T gt (c + 1) n Q (ls_ins f (gm_pt (Q p) (Q q) (Q r)) c) → post (fn, nI n, nI (c + 1), nr, nb, gu, gv, gw, gd, gx, gy, gz, gb, gt, gf)) :
    wY_tryPoint_25 post (nI p) (nI q) (nI r) (nu_I (gm_dt (Q p) (Q q) (Q r))) (nu_I sg) fn (nI n) (nI c) nr nb gu gv gw gd gx gy gz gb gt gf := by
  have vc := vp_in_nI (n := c) (N := 40) (by omega) (by omega)
  have hbd := gm_cp_bd (hok p hp) (hok q hq) (hok r hr)
  have ed : gm_dt (Q p) (Q q) (Q r) = (gm_cp (Q p) (Q q) (Q r)).2.2.2 := rfl
  have K : ∀ P : gm_V, P = (sg * (gm_cp (Q p) (Q q) (Q r)).1, sg * (gm_cp (Q p) (Q q) (Q r)).2.1, sg * (gm_cp (Q p) (Q q) (Q r)).2.2.1, sg * (gm_cp (Q p) (Q q) (Q r)).2.2.2) →
      gm_red P = gm_pt (Q p) (Q q) (Q r) ∧ 0 < P.2.2.2 ∧ gm_bd P := by
    intro P hP
    obtain ⟨b1, b2, b3, b4⟩ := hbd
    rcases hsg with ⟨e, g⟩ | ⟨e, g⟩
    · subst e
      simp only [Int.one_mul] at hP
      subst hP
      exact ⟨rfl, g, b1, b2, b3, b4⟩
    · subst e
      simp only [Int.neg_mul, Int.one_mul] at hP
      subst hP
      rw [ed] at g
      refine ⟨yw_red_neg g, ?_, ?_, ?_, ?_, ?_, ?_⟩ <;> dsimp only <;> omega
  obtain ⟨k1, k2, k3⟩ := K _ rfl
  unfold wY_tryPoint_25
  refine yw_met0 hQ hn hp hq hr ⟨vc, nm_e (yw_met1 hQ hn hp hq hr ⟨vc, nm_e (yw_met2 hQ hn hp hq hr ⟨vc, nm_e ⟨vc, nm_e ⟨vc, nm_e ⟨n + 1, ?_⟩⟩⟩⟩)⟩)⟩
  rw [nI_clamp (by omega), nu_mul, nu_mul, nu_mul, nu_mul]
  have hA := yw_put (p := (sg * (gm_cp (Q p) (Q q) (Q r)).1, sg * (gm_cp (Q p) (Q q) (Q r)).2.1, sg * (gm_cp (Q p) (Q q) (Q r)).2.2.1, sg * (gm_cp (Q p) (Q q) (Q r)).2.2.2)) hC
  have hA0 := fun (gx gy gz gb : Nat → Int32) (P : gm_V) (h : yw_A gx gy gz gb (c + 1) (ls_ins f P c)) => (fun k hk => by
    have := h k (by omega)
    rwa [ls_ins_lo hk] at this : yw_A gx gy gz gb c f)
  have hT0 : ∀ gt', (∀ k, k < c → gt' k = (upd gt c 0) k) → xw_T gt' c n Q f := fun gt' h k hk => by
    rw [h k hk, pk_un (by omega)]; exact hT k hk
  refine yw_t110 hQ hn hok hA hc hb k3 k2 (fun gt' g1 g2 => ?_) (fun gx gy gz gb gt' g1 g2 g3 g4 g5 => ?_) (fun gx gy gz gb gt' g1 g2 g3 g4 g5 => ?_) n 0 (upd gt c 0) (by omega) (fun _ _ => rfl)
    ⟨0, pk_us, nu_ms_0 _⟩ (fun i hi => by omega)
  · rw [k1] at g2
    exact h0 _ _ _ _ gt' (hA0 _ _ _ _ _ hA) (hT0 gt' g1) (fun z => absurd z g2)
  · rw [k1] at g4 g5
    exact h0 _ _ _ _ gt' (hA0 _ _ _ _ _ g4) (hT0 gt' g1) (fun _ => g5)
  · rw [k1] at g2 g3 g4 g5
    refine h1 _ _ _ _ gt' g3 g5 g4 (fun k hk => ?_)
    by_cases e : k = c
    · subst e; rw [ls_ins_eq]; exact g2
    · rw [ls_ins_lo (by omega)]; exact hT0 gt' g1 k (by omega)
theorem yw_try {post : SY → Prop} {p q r : Nat} (hQ : yw_A gu gv gw gd n Q) (hn : n ≤ 16) (hok : ∀ i, i < n → gm_ok (Q i)) (hC : yw_A gx gy gz gb c f) (hT : xw_T gt c n Q f) (hc : c ≤ 32)
    (hb : ∀ k, k < c → gm_bd (f k)) (hp : p < n) (hq : q < n) (hr : r < n)
    (h0 : ∀ gx gy gz gb gt, yw_A gx gy gz gb c f → xw_T gt c n Q f →
      (gm_dt (Q p) (Q q) (Q r) ≠ 0 → gm_In Q (fun s => s < n) (gm_pt (Q p) (Q q) (Q r)) → ∃ m, m < c ∧ f m = gm_pt (Q p) (Q q) (Q r)) → post (fn, nI n, nI c, nr, nb, gu, gv, gw, gd, gx, gy, gz, gb, gt, gf))
    (h1 : ∀ gx gy gz gb gt, gm_dt (Q p) (Q q) (Q r) ≠ 0 → gm_In Q (fun s => s < n) (gm_pt (Q p) (Q q) (Q r)) → (∀ m, m < c → f m ≠ gm_pt (Q p) (Q q) (Q r)) →
      yw_A gx gy gz gb (c + 1) (ls_ins f (gm_pt (Q p) (Q q) (Q r)) c) → xw_T gt (c + 1) n Q (ls_ins f (gm_pt (Q p) (Q q) (Q r)) c) → post (fn, nI n, nI (c + 1), nr, nb, gu, gv, gw, gd, gx, gy, gz, gb, gt, gf)) :
    wpY_tryPoint post (fn, nI n, nI c, nr, nb, gu, gv, gw, gd, gx, gy, gz, gb, gt, gf) (nI p) (nI q) (nI r) := by
  have hbd := gm_cp_bd (hok p hp) (hok q hq) (hok r hr)
  have ed : gm_dt (Q p) (Q q) (Q r) = (gm_cp (Q p) (Q q) (Q r)).2.2.2 := rfl
  obtain ⟨_, _, _, b4⟩ := hbd
  rw [← ed] at b4
  unfold wpY_tryPoint
  refine yw_det hQ hn hp hq hr (br_c (fun e => ?_) (fun e => ?_))
  · have z := (nu_eq0 (by omega) (by omega)).mp e
    exact h0 _ _ _ _ _ hC hT (fun k => absurd z k)
  · have z : gm_dt (Q p) (Q q) (Q r) ≠ 0 := fun k => e ((nu_eq0 (by omega) (by omega)).mpr k)
    refine br_c (fun g => ?_) (fun g => ?_)
    · have g' := (nu_ge0 (by omega) (by omega)).mp g
      rw [show (1 : Int32) = nu_I 1 by decide]
      exact yw_t25 (sg := 1) hQ hn hok hC hT hc hb hp hq hr z (.inl ⟨rfl, by omega⟩) (fun a b d e t u v w => h0 a b d e t u v (fun _ => w)) (fun a b d e t => h1 a b d e t z)
    · have g' : ¬ 0 ≤ gm_dt (Q p) (Q q) (Q r) := fun k => g ((nu_ge0 (by omega) (by omega)).mpr k)
      rw [show (-1 : Int32) = nu_I (-1) by decide]
      exact yw_t25 (sg := -1) hQ hn hok hC hT hc hb hp hq hr z (.inr ⟨rfl, by omega⟩) (fun a b d e t u v w => h0 a b d e t u v (fun _ => w)) (fun a b d e t => h1 a b d e t z)

/-- what is found when the triples before (pq, r) are done -/
def yw_FI (Q : Nat → gm_V) (n : Nat) (i r c : Nat) (f : Nat → gm_V) : Prop :=
  (∀ a, a < c → gm_Vt Q (fun p => p < n) (f a)) ∧ (∀ a b, a < b → b < c → f a ≠ f b) ∧
  ∀ a b d, a < b → b < d → d < n → (16 * a + b < i ∨ (16 * a + b = i ∧ d < r)) → gm_dt (Q a) (Q b) (Q d) ≠ 0 →
    gm_In Q (fun p => p < n) (gm_pt (Q a) (Q b) (Q d)) → ∃ m, m < c ∧ f m = gm_pt (Q a) (Q b) (Q d)
theorem yw_FI_c {i r : Nat} (hn : n ≤ 16) (h : yw_FI Q n i r c f) : c ≤ 32 := by
  have := gm_bound (Q := Q) (ac := fun p => p < n) (n := n) (fun i hi => hi) c f (fun a ha => (h.1 a ha).1) (fun a b hab hb z =>
    h.2.1 a b hab hb (gm_pr_eq z (h.1 a (by omega)).1.1 (h.1 b hb).1.1 (h.1 a (by omega)).2 (h.1 b hb).2))
  omega
theorem yw_f42 {post : SY → Prop} {J7 : Int32 → Int32 → Int32 → Int32 → (Nat → Int32) → (Nat → Int32) → (Nat → Int32) → (Nat → Int32) → (Nat → Int32) → (Nat → Int32) → (Nat → Int32) → (Nat → Int32) → (Nat → Int32) → (Nat → Int32) → (Nat → Int32) → (Nat → Int32) → Prop}
    (hQ : yw_A gu gv gw gd n Q) (hn : n ≤ 16) (hok : ∀ i, i < n → gm_ok (Q i)) {i p q : Nat} (hi : i = 16 * p + q) (hpq : p < q) (hq : q < n)
    (h : ∀ c f gx gy gz gb gt, yw_A gx gy gz gb c f → xw_T gt c n Q f → yw_FI Q n i n c f → J7 (nI (i + 1)) fn (nI n) (nI c) nr nb gu gv gw gd gx gy gz gb gt gf) :
    ∀ (d r c : Nat) (f : Nat → gm_V) (gx gy gz gb gt : Nat → Int32), r + d = n → q < r → yw_A gx gy gz gb c f → xw_T gt c n Q f → yw_FI Q n i r c f →
      wY_findCorners_42 post J7 (nI i) (nI p) (nI q) (d + 1) (nI r) fn (nI n) (nI c) nr nb gu gv gw gd gx gy gz gb gt gf := by
  intro d
  induction d with
  | zero =>
    intro r c f gx gy gz gb gt hr _ hC hT hF
    have : r = n := by omega
    subst this
    exact br_t (nI_le (Nat.le_refl _) (by omega)) (nm_r (nI_1 i) (h c f gx gy gz gb gt hC hT hF))
  | succ d ih =>
    intro r c f gx gy gz gb gt hr hqr hC hT hF
    have hc := yw_FI_c hn hF
    have hbd : ∀ a, a < c → gm_bd (f a) := fun a ha => gm_vt_bd (fun i hi => hok i hi) (hF.1 a ha)
    refine br_f (nI_ge (by omega) (by omega)) (yw_try hQ hn hok hC hT hc hbd (by omega) hq (by omega) (fun gx gy gz gb gt g1 g2 g3 => ?_) (fun gx gy gz gb gt g1 g2 g3 g4 g5 => ?_))
    · refine nm_r (nI_1 r) (ih (r + 1) c f _ _ _ _ _ (by omega) (by omega) g1 g2 ⟨hF.1, hF.2.1, fun a b d h1 h2 h3 h4 hd hin => ?_⟩)
      by_cases e : a = p ∧ b = q ∧ d = r
      · obtain ⟨e1, e2, e3⟩ := e
        subst e1 e2 e3
        exact g3 hd hin
      · exact hF.2.2 a b d h1 h2 h3 (by omega) hd hin
    · have hvt := gm_pt_vt (Q := Q) (ac := fun p => p < n) (i := p) (j := q) (k := r) (by omega) hq (by omega) g1 g2
      refine nm_r (nI_1 r) (ih (r + 1) (c + 1) _ _ _ _ _ _ (by omega) (by omega) g4 g5 ⟨fun a ha => ?_, fun a b hab hb => ?_, fun a b d h1 h2 h3 h4 hd hin => ?_⟩)
      · by_cases e : a = c
        · subst e; rw [ls_ins_eq]; exact hvt
        · rw [ls_ins_lo (by omega)]; exact hF.1 a (by omega)
      · rw [ls_ins_lo (j := a) (by omega)]
        by_cases e : b = c
        · subst e; rw [ls_ins_eq]; exact g3 a (by omega)
        · rw [ls_ins_lo (by omega)]; exact hF.2.1 a b hab (by omega)
      · by_cases e : a = p ∧ b = q ∧ d = r
        · obtain ⟨e1, e2, e3⟩ := e
          subst e1 e2 e3
          exact ⟨c, by omega, ls_ins_eq⟩
        · obtain ⟨m, hm, e⟩ := hF.2.2 a b d h1 h2 h3 (by omega) hd hin
          exact ⟨m, by omega, by rw [ls_ins_lo hm]; exact e⟩
theorem yw_f7 {post : SY → Prop} (hQ : yw_A gu gv gw gd n Q) (hn : n ≤ 16) (hok : ∀ i, i < n → gm_ok (Q i))
    (h : ∀ c f gx gy gz gb gt, yw_A gx gy gz gb c f → xw_T gt c n Q f → yw_FI Q n 256 0 c f → ∃ m, wY_findCorners_73 post m 0 fn (nI n) (nI c) nr nb gu gv gw gd gx gy gz gb gt gf) :
    ∀ (d i c : Nat) (f : Nat → gm_V) (gx gy gz gb gt : Nat → Int32), i + d = 256 → yw_A gx gy gz gb c f → xw_T gt c n Q f → yw_FI Q n i 0 c f →
      wY_findCorners_7 post (d + 1) (nI i) fn (nI n) (nI c) nr nb gu gv gw gd gx gy gz gb gt gf := by
  intro d
  induction d with
  | zero =>
    intro i c f gx gy gz gb gt hi hC hT hF
    have : i = 256 := by omega
    subst this
    exact br_t (by decide) (h c f gx gy gz gb gt hC hT hF)
  | succ d ih =>
    intro i c f gx gy gz gb gt hi hC hT hF
    refine br_f (nI_ge (b := 256) (by omega) (by decide)) ⟨by decide, nm_r (pk_div (d := 16) (by omega) (by omega) (by omega)) ⟨by decide, nm_r (pk_rem (d := 16) (by omega) (by omega) (by omega)) ?_⟩⟩
    have hdm := Nat.div_add_mod i 16
    have hm16 := Nat.mod_lt i (show 16 > 0 by omega)
    by_cases c1 : i % 16 ≤ i / 16
    · refine br_t (nI_le c1 (by omega)) (nm_r (nI_1 i) (ih (i + 1) c f _ _ _ _ _ (by omega) hC hT ⟨hF.1, hF.2.1, fun a b d h1 h2 h3 h4 => hF.2.2 a b d h1 h2 h3 (by omega)⟩))
    · refine br_f (nI_ge (by omega) (by omega)) ?_
      by_cases c2 : n ≤ i % 16
      · refine br_t (nI_le c2 (by omega)) (nm_r (nI_1 i) (ih (i + 1) c f _ _ _ _ _ (by omega) hC hT ⟨hF.1, hF.2.1, fun a b d h1 h2 h3 h4 => hF.2.2 a b d h1 h2 h3 (by omega)⟩))
      · refine br_f (nI_ge (by omega) (by omega)) (nm_r (nI_1 _) ⟨n - (i % 16 + 1) + 1, yw_f42 hQ hn hok (i := i) (by omega) (by omega) (by omega) (fun c f gx gy gz gb gt hC hT hF => ?_)
          (n - (i % 16 + 1)) (i % 16 + 1) c f _ _ _ _ _ (by omega) (by omega) hC hT ⟨hF.1, hF.2.1, fun a b d h1 h2 h3 h4 => hF.2.2 a b d h1 h2 h3 (by omega)⟩⟩)
        exact ih (i + 1) c f _ _ _ _ _ (by omega) hC hT ⟨hF.1, hF.2.1, fun a b d h1 h2 h3 h4 => hF.2.2 a b d h1 h2 h3 (by omega)⟩

theorem yw_before {post : Int32 → Prop} (hC : yw_A gx gy gz gb c f) (hc : c ≤ 40) {k l : Nat} (hk : k < c) (hl : l < c) (bk : gm_bd (f k)) (bl : gm_bd (f l))
    (h1 : gm_lt (f k) (f l) → post 1) (h0 : ¬ gm_lt (f k) (f l) → post 0) : wpY_before post (fn, fp, fk, nr, nb, gu, gv, gw, gd, gx, gy, gz, gb, gt, gf) (nI k) (nI l) := by
  have o0 := gm_o_bd bk bl (a := 0) (by omega)
  have o1 := gm_o_bd bk bl (a := 1) (by omega)
  have o2 := gm_o_bd bk bl (a := 2) (by omega)
  obtain ⟨k0, k1, k2, k3⟩ := hC k hk
  obtain ⟨l0, l1, l2, l3⟩ := hC l hl
  obtain ⟨a1, a2, a3, a4⟩ := bk
  obtain ⟨b1, b2, b3, b4⟩ := bl
  have vk := vp_in_nI (n := k) (N := 40) (by omega) (by omega)
  have vl := vp_in_nI (n := l) (N := 40) (by omega) (by omega)
  have G1 : gm_lt (f k) (f l) ↔ (gm_c (f k) 0 * (f l).2.2.2 - gm_c (f l) 0 * (f k).2.2.2 < 0 ∨ (gm_c (f k) 0 * (f l).2.2.2 - gm_c (f l) 0 * (f k).2.2.2 = 0 ∧
      (gm_c (f k) 1 * (f l).2.2.2 - gm_c (f l) 1 * (f k).2.2.2 < 0 ∨ (gm_c (f k) 1 * (f l).2.2.2 - gm_c (f l) 1 * (f k).2.2.2 = 0 ∧
        gm_c (f k) 2 * (f l).2.2.2 - gm_c (f l) 2 * (f k).2.2.2 < 0)))) := by
    simp only [gm_lt, gm_c]; omega
  unfold wpY_before
  dsimp only
  rw [nI_clamp (by omega), nI_clamp (by omega), k0, k1, k2, k3, l0, l1, l2, l3, nu_64 (by omega) (by omega), nu_64 (by omega) (by omega), nu_64 (by omega) (by omega), nu_64 (by omega) (by omega),
    nu_64 (by omega) (by omega), nu_64 (by omega) (by omega), nu_64 (by omega) (by omega), nu_64 (by omega) (by omega), nu_Lmul, nu_Lmul, nu_Lmul, nu_Lmul, nu_Lmul, nu_Lmul, nu_Lsub, nu_Lsub]
  have q1 := nu_pb (A := 5760) (B := 384) a3.1 a3.2 b4.1 b4.2
  have q2 := nu_pb (A := 5760) (B := 384) b3.1 b3.2 a4.1 a4.2
  simp only [gm_c] at *
  refine ⟨vk, vl, vl, vk, nm_e (br_c (fun e0 => ⟨vk, vl, vl, vk, nm_e (br_c (fun e1 => ⟨vk, vl, vl, vk, br_c (fun e2 => ?_) (fun e2 => ?_)⟩) (fun e1 => br_c (fun e2 => ?_) (fun e2 => ?_)))⟩)
    (fun e0 => br_c (fun e2 => ?_) (fun e2 => ?_)))⟩
  · have z0 := (nu_Leq0 (by omega) (by omega)).mp e0
    have z1 := (nu_Leq0 (by omega) (by omega)).mp e1
    have z2 := (nu_Lle (by omega) (by omega) (by omega) (by omega)).mp e2
    exact h0 (fun g => by have := G1.mp g; omega)
  · have z0 := (nu_Leq0 (by omega) (by omega)).mp e0
    have z1 := (nu_Leq0 (by omega) (by omega)).mp e1
    have z2 := (not_congr (nu_Lle (by omega) (by omega) (by omega) (by omega))).mp e2
    exact h1 (G1.mpr (by omega))
  · have z0 := (nu_Leq0 (by omega) (by omega)).mp e0
    have z1 := (not_congr (nu_Leq0 (by omega) (by omega))).mp e1
    have z2 := (nu_Lge0 (by omega) (by omega)).mp e2
    exact h0 (fun g => by have := G1.mp g; omega)
  · have z0 := (nu_Leq0 (by omega) (by omega)).mp e0
    have z2 := (not_congr (nu_Lge0 (by omega) (by omega))).mp e2
    exact h1 (G1.mpr (by omega))
  · have z0 := (not_congr (nu_Leq0 (by omega) (by omega))).mp e0
    have z2 := (nu_Lge0 (by omega) (by omega)).mp e2
    exact h0 (fun g => by have := G1.mp g; omega)
  · have z2 := (not_congr (nu_Lge0 (by omega) (by omega))).mp e2
    exact h1 (G1.mpr (by omega))
theorem yw_sw1 {a : Nat → Int32} {k l : Nat} (hkl : k ≠ l) (j : Nat) : upd (upd a k (a l)) l (a k) j = if j = k then a l else if j = l then a k else a j := by
  by_cases e1 : j = l
  · subst e1
    rw [pk_us, if_neg (fun h => hkl h.symm), if_pos rfl]
  · rw [pk_un e1]
    by_cases e2 : j = k
    · subst e2; rw [pk_us, if_pos rfl]
    · rw [pk_un e2, if_neg e2, if_neg e1]
theorem yw_exch {post : SY → Prop} (hC : yw_A gx gy gz gb c f) (hT : xw_T gt c n Q f) (hc : c ≤ 40) {k l : Nat} (hk : k < c) (hl : l < c) (hkl : k ≠ l)
    (h : ∀ gx gy gz gb gt, yw_A gx gy gz gb c (ls_sw f k l) → xw_T gt c n Q (ls_sw f k l) → post (fn, fp, fk, nr, nb, gu, gv, gw, gd, gx, gy, gz, gb, gt, gf)) : wpY_exchange post (fn, fp, fk, nr, nb, gu, gv, gw, gd, gx, gy, gz, gb, gt, gf) (nI k) (nI l) := by
  have vk := vp_in_nI (n := k) (N := 40) (by omega) (by omega)
  have vl := vp_in_nI (n := l) (N := 40) (by omega) (by omega)
  unfold wpY_exchange
  dsimp only
  rw [nI_clamp (by omega), nI_clamp (by omega)]
  refine ⟨vk, nm_e ⟨vl, vk, nm_e ⟨vl, nm_e ⟨vk, nm_e ⟨vl, vk, nm_e ⟨vl, nm_e ⟨vk, nm_e ⟨vl, vk, nm_e ⟨vl, nm_e ⟨vk, nm_e ⟨vl, vk, nm_e ⟨vl, nm_e ⟨vk, nm_e ⟨vl, vk, nm_e ⟨vl, nm_e ?_⟩⟩⟩⟩⟩⟩⟩⟩⟩⟩⟩⟩⟩⟩⟩
  refine h _ _ _ _ _ (fun j hj => ?_) (fun j hj => ?_)
  · rw [yw_sw1 hkl, yw_sw1 hkl, yw_sw1 hkl, yw_sw1 hkl]
    unfold ls_sw
    by_cases e1 : j = k
    · simp only [if_pos e1]; exact hC l hl
    · simp only [if_neg e1]
      by_cases e2 : j = l
      · simp only [if_pos e2]; exact hC k hk
      · simp only [if_neg e2]; exact hC j hj
  · rw [yw_sw1 hkl]
    unfold ls_sw
    by_cases e1 : j = k
    · simp only [if_pos e1]; exact hT l hl
    · simp only [if_neg e1]
      by_cases e2 : j = l
      · simp only [if_pos e2]; exact hT k hk
      · simp only [if_neg e2]; exact hT j hj
end
