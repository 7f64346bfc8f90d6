/-! The planes of both sides, from the cuts -/
section
/-- a cut's plane, from its packed normal -/
def rl_ct (m : Nat) (d : Int) : gm_V := ((m % 9 : Nat) - 4, (m / 9 % 9 : Nat) - 4, (m / 81 : Nat) - 4, d)
/-- a plane across an axis -/
def rl_ax (a : Nat) (s d : Int) : gm_V := (if a = 0 then s else 0, if a = 1 then s else 0, if a = 2 then s else 0, d)
def rl_Q (M : Nat → Nat) (D : Nat → Int) (i : Nat) : gm_V := if i < 6 then gm_bx i else rl_ct (M (i - 6)) (D (i - 6))
/-- the same without plane l -/
def rl_wo (Q : Nat → gm_V) (l : Nat) : Nat → gm_V := fun i => if i < l then Q i else Q (i + 1)
/-- cuts that are as the document says -/
def rl_ok (n : Nat) (M : Nat → Nat) (D : Nat → Int) : Prop := n ≤ 8 ∧ ∀ i, i < n → M i ≤ 728 ∧ M i ≠ 364 ∧ -60 ≤ D i ∧ D i ≤ 60
theorem rl_bx0 : ∀ a, a < 3 → gm_bx (2 * a) = rl_ax a 1 8 ∧ gm_bx (2 * a + 1) = rl_ax a (-1) 8 := by decide
theorem rl_bx_ok : ∀ i, i < 6 → gm_ok (gm_bx i) ∧ rk_nz (gm_bx i) := by
  intro i hi
  have : i = 0 ∨ i = 1 ∨ i = 2 ∨ i = 3 ∨ i = 4 ∨ i = 5 := by omega
  rcases this with e | e | e | e | e | e <;> subst e <;> simp [gm_ok, rk_nz, gm_bx]
theorem rl_ct_ok {m : Nat} {d : Int} (h : m ≤ 728) (h1 : -60 ≤ d) (h2 : d ≤ 60) : gm_ok (rl_ct m d) := by
  simp only [gm_ok, rl_ct]
  omega
theorem rl_ct_nz {m : Nat} {d : Int} (h : m ≤ 728) (h1 : m ≠ 364) : rk_nz (rl_ct m d) := by
  simp only [rk_nz, rl_ct]
  omega
theorem rl_Q_ok {n : Nat} {M : Nat → Nat} {D : Nat → Int} (h : rl_ok n M D) : ∀ i, i < 6 + n → gm_ok (rl_Q M D i) ∧ rk_nz (rl_Q M D i) := by
  intro i hi
  unfold rl_Q
  by_cases e : i < 6
  · rw [if_pos e]; exact rl_bx_ok i e
  · rw [if_neg e]
    obtain ⟨a, b, c, d⟩ := h.2 (i - 6) (by omega)
    exact ⟨rl_ct_ok a c d, rl_ct_nz a b⟩

variable {fn fp fk : Int32} {nr nb gu gv gw gd gx gy gz gb gt gf : Nat → Int32} {Q f : Nat → gm_V} {n c m : Nat} {p : gm_V}
theorem yw_add {post : SY → Prop} (hm : m < 16) (hA : yw_A gu gv gw gd m Q) (hp : Q m = p)
    (h : ∀ gu gv gw gd, yw_A gu gv gw gd (m + 1) Q → post (fn, nI (m + 1), fk, nr, nb, gu, gv, gw, gd, gx, gy, gz, gb, gt, gf)) : wpY_addPlane post (fn, nI m, fk, nr, nb, gu, gv, gw, gd, gx, gy, gz, gb, gt, gf) (nu_I p.1) (nu_I p.2.1) (nu_I p.2.2.1) (nu_I p.2.2.2) := by
  have v := vp_in_nI (n := m) (N := 16) hm (by omega)
  unfold wpY_addPlane
  dsimp only
  rw [nI_clamp (by omega)]
  refine ⟨v, nm_e ⟨v, nm_e ⟨v, nm_e ⟨v, nm_e (nm_r (nI_1 m) (h _ _ _ _ ?_))⟩⟩⟩⟩
  refine yw_A_cg (yw_put hA) (fun k hk => ?_)
  by_cases e : k = m
  · subst e; rw [ls_ins_eq]; exact hp.symm
  · exact ls_ins_lo (by omega)
theorem yw_p9 {M : Nat} (hM : M ≤ 728) : (nI M - nI M / 9 * 9) - 4 = nu_I ((M % 9 : Nat) - 4) := by
  rw [show (9 : Int32) = nI 9 from rfl, pk_rem (by omega) (by omega) (by omega), show (4 : Int32) = nu_I 4 by decide, nu_nI, nu_sub]
theorem yw_p99 {M : Nat} (hM : M ≤ 728) : ((nI M / 9) - (nI M / 9) / 9 * 9) - 4 = nu_I ((M / 9 % 9 : Nat) - 4) := by
  rw [show (9 : Int32) = nI 9 from rfl, pk_div (by omega) (by omega) (by omega), pk_rem (by omega) (by omega) (by omega), show (4 : Int32) = nu_I 4 by decide, nu_nI, nu_sub]
theorem yw_p81 {M : Nat} (hM : M ≤ 728) : (nI M / 81) - 4 = nu_I ((M / 81 : Nat) - 4) := by
  rw [show (81 : Int32) = nI 81 from rfl, pk_div (by omega) (by omega) (by omega), show (4 : Int32) = nu_I 4 by decide, nu_nI, nu_sub]
theorem yw_addN {post : SY → Prop} {M : Nat} {D : Int} (hM : M ≤ 728) (hm : m < 16) (hA : yw_A gu gv gw gd m Q) (hp : Q m = rl_ct M D)
    (h : ∀ gu gv gw gd, yw_A gu gv gw gd (m + 1) Q → post (fn, nI (m + 1), fk, nr, nb, gu, gv, gw, gd, gx, gy, gz, gb, gt, gf)) : wpY_addNormal post (fn, nI m, fk, nr, nb, gu, gv, gw, gd, gx, gy, gz, gb, gt, gf) (nI M) (nu_I D) :=
  ⟨by decide, nm_r (yw_p9 hM) ⟨by decide, by decide, nm_r (yw_p99 hM) ⟨by decide, nm_r (yw_p81 hM) (yw_add (p := rl_ct M D) hm hA hp h)⟩⟩⟩
theorem yw_addA {post : SY → Prop} {a : Nat} {s d : Int} {s' d' : Int32} (es : s' = nu_I s) (ed : d' = nu_I d) (ha : a < 3) (hm : m < 16) (hA : yw_A gu gv gw gd m Q) (hp : Q m = rl_ax a s d)
    (h : ∀ gu gv gw gd, yw_A gu gv gw gd (m + 1) Q → post (fn, nI (m + 1), fk, nr, nb, gu, gv, gw, gd, gx, gy, gz, gb, gt, gf)) : wpY_addAxis post (fn, nI m, fk, nr, nb, gu, gv, gw, gd, gx, gy, gz, gb, gt, gf) (nI a) s' d' := by
  subst es ed
  have H := yw_add (p := rl_ax a s d) (fn := fn) (fk := fk) (nr := nr) (nb := nb) (gx := gx) (gy := gy) (gz := gz) (gb := gb) (gt := gt) (gf := gf) hm hA hp h
  have : a = 0 ∨ a = 1 ∨ a = 2 := by omega
  rcases this with e | e | e
  · subst e
    exact br_t rfl (br_f (by decide) (br_f (by decide) H))
  · subst e
    exact br_f (by decide) (br_t rfl (br_f (by decide) H))
  · subst e
    exact br_f (by decide) (br_f (by decide) (br_t rfl H))

variable {M : Nat → Nat} {D : Nat → Int}
/-- cuts in the reference's own arrays -/
def yw_N (nr nb : Nat → Int32) (n : Nat) (M : Nat → Nat) (D : Nat → Int) : Prop := ∀ i, i < n → nr i = nI (M i) ∧ nb i = nu_I (D i)
/-- all cuts -/
theorem yw_s36 {post : SY → Prop} (hk : rl_ok n M D) (hN : yw_N nr nb n M D)
    (h : ∀ gu gv gw gd, yw_A gu gv gw gd (6 + n) (rl_Q M D) → post (nI n, nI (6 + n), fk, nr, nb, gu, gv, gw, gd, gx, gy, gz, gb, gt, gf)) :
    ∀ (d i : Nat) (gu gv gw gd : Nat → Int32), i + d = n → yw_A gu gv gw gd (6 + i) (rl_Q M D) → wY_setPlanes_36 post (-1) (d + 1) (nI i) (nI n) (nI (6 + i)) fk nr nb gu gv gw gd gx gy gz gb gt gf := by
  have hn8 := hk.1
  intro d
  induction d with
  | zero =>
    intro i gu gv gw gd hi hA
    have : i = n := by omega
    subst this
    exact br_t (nI_le (Nat.le_refl _) (by omega)) (h _ _ _ _ hA)
  | succ d ih =>
    intro i gu gv gw gd hi hA
    have v := vp_in_nI (n := i) (N := 8) (by omega) (by omega)
    have hne : ¬ nI i = -1 := fun e => absurd (e ▸ nI_pos' (n := i) (by omega) : (0 : Int32) ≤ -1) (by decide)
    obtain ⟨a, b⟩ := hN i (by omega)
    obtain ⟨m1, m2, m3, m4⟩ := hk.2 i (by omega)
    refine br_f (nI_ge (by omega) (by omega)) (br_f hne ⟨v, v, ?_⟩)
    rw [nI_clamp (by omega), a, b]
    refine yw_addN m1 (by omega) hA ?_ (fun gu gv gw gd g => nm_r (nI_1 i) (ih (i + 1) _ _ _ _ (by omega) g))
    unfold rl_Q
    rw [if_neg (by omega), show 6 + i - 6 = i by omega]
/-- all cuts but one -/
theorem yw_s36l {post : SY → Prop} {l : Nat} (hl : l < n) (hk : rl_ok n M D) (hN : yw_N nr nb n M D)
    (h : ∀ gu gv gw gd, yw_A gu gv gw gd (5 + n) (rl_wo (rl_Q M D) (6 + l)) → post (nI n, nI (5 + n), fk, nr, nb, gu, gv, gw, gd, gx, gy, gz, gb, gt, gf)) :
    ∀ (d i j : Nat) (gu gv gw gd : Nat → Int32), i + d = n → (i ≤ l ∧ j = 6 + i ∨ l < i ∧ j = 5 + i) → yw_A gu gv gw gd j (rl_wo (rl_Q M D) (6 + l)) → wY_setPlanes_36 post (nI l) (d + 1) (nI i) (nI n) (nI j) fk nr nb gu gv gw gd gx gy gz gb gt gf := by
  have hn8 := hk.1
  intro d
  induction d with
  | zero =>
    intro i j gu gv gw gd hi hj hA
    have : i = n := by omega
    subst this
    have : j = 5 + i := by omega
    subst this
    exact br_t (nI_le (Nat.le_refl _) (by omega)) (h _ _ _ _ hA)
  | succ d ih =>
    intro i j gu gv gw gd hi hj hA
    have v := vp_in_nI (n := i) (N := 8) (by omega) (by omega)
    obtain ⟨a, b⟩ := hN i (by omega)
    obtain ⟨m1, m2, m3, m4⟩ := hk.2 i (by omega)
    refine br_f (nI_ge (by omega) (by omega)) ?_
    by_cases e : i = l
    · subst e
      refine br_t rfl (nm_r (nI_1 i) (ih (i + 1) j _ _ _ _ (by omega) (by omega) hA))
    · refine br_f (fun z => e ((nI_eq (by omega) (by omega)).mp z)) ⟨v, v, ?_⟩
      rw [nI_clamp (by omega), a, b]
      refine yw_addN m1 (by omega) hA ?_ (fun gu gv gw gd g => nm_r (nI_1 i) (ih (i + 1) (j + 1) _ _ _ _ (by omega) (by omega) g))
      unfold rl_wo rl_Q
      by_cases e2 : i < l
      · rw [if_pos (by omega), if_neg (by omega), show j - 6 = i by omega]
      · rw [if_neg (by omega), if_neg (by omega), show j + 1 - 6 = i by omega]
theorem yw_s7 {post : SY → Prop} {lf : Int32} (hQ : ∀ i, i < 6 → Q i = gm_bx i)
    (h : ∀ gu gv gw gd, yw_A gu gv gw gd 6 Q → ∃ t, wY_setPlanes_36 post lf t 0 fn (nI 6) fk nr nb gu gv gw gd gx gy gz gb gt gf) :
    ∀ (d a : Nat) (gu gv gw gd : Nat → Int32), a + d = 3 → yw_A gu gv gw gd (2 * a) Q → wY_setPlanes_7 post lf (d + 1) (nI a) fn (nI (2 * a)) fk nr nb gu gv gw gd gx gy gz gb gt gf := by
  intro d
  induction d with
  | zero =>
    intro a gu gv gw gd ha hA
    have : a = 3 := by omega
    subst this
    exact br_t (by decide) (h _ _ _ _ hA)
  | succ d ih =>
    intro a gu gv gw gd ha hA
    have b := rl_bx0 a (by omega)
    refine br_f (nI_ge (b := 3) (by omega) (by decide)) ?_
    refine yw_addA (s := 1) (d := 8) (by decide) (by decide) (by omega) (by omega) hA ((hQ _ (by omega)).trans b.1) (fun gu gv gw gd g1 => ?_)
    refine yw_addA (s := -1) (d := 8) (by decide) (by decide) (by omega) (by omega) g1 ((hQ _ (by omega)).trans b.2) (fun gu gv gw gd g2 => ?_)
    exact nm_r (nI_1 a) (ih (a + 1) _ _ _ _ (by omega) g2)
theorem rl_Q6 : ∀ i, i < 6 → rl_Q M D i = gm_bx i := fun i hi => if_pos hi
theorem rl_wo6 {l : Nat} : ∀ i, i < 6 → rl_wo (rl_Q M D) (6 + l) i = gm_bx i := fun i hi => by
  unfold rl_wo
  rw [if_pos (by omega)]
  exact if_pos hi
theorem yw_set {post : SY → Prop} (hk : rl_ok n M D) (hN : yw_N nr nb n M D)
    (h : ∀ gu gv gw gd, yw_A gu gv gw gd (6 + n) (rl_Q M D) → post (nI n, nI (6 + n), fk, nr, nb, gu, gv, gw, gd, gx, gy, gz, gb, gt, gf)) : wpY_setPlanes post (nI n, fp, fk, nr, nb, gu, gv, gw, gd, gx, gy, gz, gb, gt, gf) (-1) :=
  ⟨4, yw_s7 rl_Q6 (fun gu gv gw gd g => ⟨n + 1, yw_s36 hk hN h n 0 _ _ _ _ (by omega) g⟩) 3 0 _ _ _ _ (by omega) (fun k hk => by omega)⟩
theorem yw_setl {post : SY → Prop} {l : Nat} (hl : l < n) (hk : rl_ok n M D) (hN : yw_N nr nb n M D)
    (h : ∀ gu gv gw gd, yw_A gu gv gw gd (5 + n) (rl_wo (rl_Q M D) (6 + l)) → post (nI n, nI (5 + n), fk, nr, nb, gu, gv, gw, gd, gx, gy, gz, gb, gt, gf)) : wpY_setPlanes post (nI n, fp, fk, nr, nb, gu, gv, gw, gd, gx, gy, gz, gb, gt, gf) (nI l) :=
  ⟨4, yw_s7 rl_wo6 (fun gu gv gw gd g => ⟨n + 1, yw_s36l hl hk hN h n 0 6 _ _ _ _ (by omega) (by omega) g⟩) 3 0 _ _ _ _ (by omega) (fun k hk => by omega)⟩
theorem yw_find {post : SY → Prop} (hk : rl_ok n M D) (hN : yw_N nr nb n M D)
    (h : ∀ c f gu gv gw gd gx gy gz gb gt, c ≤ 32 → ls_L (gm_Vt (rl_Q M D) (fun p => p < 6 + n)) c f → yw_A gu gv gw gd (6 + n) (rl_Q M D) → yw_A gx gy gz gb c f → xw_T gt c (6 + n) (rl_Q M D) f →
      post (nI n, nI (6 + n), nI c, nr, nb, gu, gv, gw, gd, gx, gy, gz, gb, gt, gf)) : wpY_find post (nI n, fp, fk, nr, nb, gu, gv, gw, gd, gx, gy, gz, gb, gt, gf) := by
  have hn8 := hk.1
  unfold wpY_find
  refine yw_set hk hN (fun gu gv gw gd g => yw_fc g (by omega) (fun i hi => (rl_Q_ok hk i hi).1) (fun c f gx gy gz gb gt a b d e => h c f _ _ _ _ _ _ _ _ _ a b g d e))
end
