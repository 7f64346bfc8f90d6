/-! The reference's small methods -/
section
/-- four arrays that hold points -/
def yw_A (a b d e : Nat → Int32) (c : Nat) (f : Nat → gm_V) : Prop :=
  ∀ k, k < c → a k = nu_I (f k).1 ∧ b k = nu_I (f k).2.1 ∧ d k = nu_I (f k).2.2.1 ∧ e k = nu_I (f k).2.2.2
theorem yw_A_le {a b d e : Nat → Int32} {c c' : Nat} {f : Nat → gm_V} (h : yw_A a b d e c f) (hc : c' ≤ c) : yw_A a b d e c' f := fun k hk => h k (by omega)
theorem yw_A_cg {a b d e : Nat → Int32} {c : Nat} {f g : Nat → gm_V} (h : yw_A a b d e c f) (he : ∀ k, k < c → f k = g k) : yw_A a b d e c g := fun k hk => he k hk ▸ h k hk
theorem yw_put {a b d e : Nat → Int32} {c : Nat} {f : Nat → gm_V} {p : gm_V} (h : yw_A a b d e c f) :
    yw_A (upd a c (nu_I p.1)) (upd b c (nu_I p.2.1)) (upd d c (nu_I p.2.2.1)) (upd e c (nu_I p.2.2.2)) (c + 1) (ls_ins f p c) := by
  intro k hk
  by_cases z : k = c
  · subst z
    rw [ls_ins_eq]
    exact ⟨pk_us, pk_us, pk_us, pk_us⟩
  · rw [ls_ins_lo (by omega), pk_un z, pk_un z, pk_un z, pk_un z]
    exact h k (by omega)

variable {fn fp fk : Int32} {nr nb gu gv gw gd gx gy gz gb gt gf : Nat → Int32} {Q f : Nat → gm_V} {n c : Nat}
theorem yw_in {post : Int32 → Prop} {p lo hi : Int32} (h1 : ¬ p < lo → ¬ hi < p → post 1) (h0 : (p < lo ∨ hi < p) → post 0) : wpY_in post (fn, fp, fk, nr, nb, gu, gv, gw, gd, gx, gy, gz, gb, gt, gf) p lo hi :=
  br_c (fun g => h0 (.inl g)) (fun g => br_c (fun e => h0 (.inr e)) (fun e => h1 g e))
theorem yw_cr0 {post : Int32 → Prop} (hQ : yw_A gu gv gw gd n Q) (hn : n ≤ 16) {p q : Nat} (hp : p < n) (hq : q < n)
    (h : post (nu_I (gm_cr (Q p) (Q q)).1)) : wpY_cross post (fn, fp, fk, nr, nb, gu, gv, gw, gd, gx, gy, gz, gb, gt, gf) (nI p) (nI q) 0 := by
  obtain ⟨p0, p1, p2, p3⟩ := hQ p hp
  obtain ⟨q0, q1, q2, q3⟩ := hQ q hq
  have vp := vp_in_nI (n := p) (N := 16) (by omega) (by omega)
  have vq := vp_in_nI (n := q) (N := 16) (by omega) (by omega)
  refine br_t rfl ⟨vp, vq, vp, vq, ?_⟩
  rw [nI_clamp (by omega), nI_clamp (by omega), p1, p2, q1, q2, nu_mul, nu_mul, nu_sub]
  exact h
theorem yw_cr1 {post : Int32 → Prop} (hQ : yw_A gu gv gw gd n Q) (hn : n ≤ 16) {p q : Nat} (hp : p < n) (hq : q < n)
    (h : post (nu_I (gm_cr (Q p) (Q q)).2.1)) : wpY_cross post (fn, fp, fk, nr, nb, gu, gv, gw, gd, gx, gy, gz, gb, gt, gf) (nI p) (nI q) 1 := by
  obtain ⟨p0, p1, p2, p3⟩ := hQ p hp
  obtain ⟨q0, q1, q2, q3⟩ := hQ q hq
  have vp := vp_in_nI (n := p) (N := 16) (by omega) (by omega)
  have vq := vp_in_nI (n := q) (N := 16) (by omega) (by omega)
  refine br_f (by decide) (br_t rfl ⟨vp, vq, vp, vq, ?_⟩)
  rw [nI_clamp (by omega), nI_clamp (by omega), p0, p2, q0, q2, nu_mul, nu_mul, nu_sub]
  exact h
theorem yw_cr2 {post : Int32 → Prop} (hQ : yw_A gu gv gw gd n Q) (hn : n ≤ 16) {p q : Nat} (hp : p < n) (hq : q < n)
    (h : post (nu_I (gm_cr (Q p) (Q q)).2.2.1)) : wpY_cross post (fn, fp, fk, nr, nb, gu, gv, gw, gd, gx, gy, gz, gb, gt, gf) (nI p) (nI q) 2 := by
  obtain ⟨p0, p1, p2, p3⟩ := hQ p hp
  obtain ⟨q0, q1, q2, q3⟩ := hQ q hq
  have vp := vp_in_nI (n := p) (N := 16) (by omega) (by omega)
  have vq := vp_in_nI (n := q) (N := 16) (by omega) (by omega)
  refine br_f (by decide) (br_f (by decide) ⟨vp, vq, vp, vq, ?_⟩)
  rw [nI_clamp (by omega), nI_clamp (by omega), p0, p1, q0, q1, nu_mul, nu_mul, nu_sub]
  exact h
theorem yw_det {post : Int32 → Prop} (hQ : yw_A gu gv gw gd n Q) (hn : n ≤ 16) {p q r : Nat} (hp : p < n) (hq : q < n) (hr : r < n)
    (h : post (nu_I (gm_dt (Q p) (Q q) (Q r)))) : wpY_determinant post (fn, fp, fk, nr, nb, gu, gv, gw, gd, gx, gy, gz, gb, gt, gf) (nI p) (nI q) (nI r) := by
  obtain ⟨p0, p1, p2, p3⟩ := hQ p hp
  have vp := vp_in_nI (n := p) (N := 16) (by omega) (by omega)
  refine ⟨vp, yw_cr0 hQ hn hq hr ⟨vp, yw_cr1 hQ hn hq hr ⟨vp, yw_cr2 hQ hn hq hr ?_⟩⟩⟩
  rw [nI_clamp (by omega), p0, p1, p2, nu_mul, nu_mul, nu_mul, nu_add, nu_add]
  have e : (Q p).1 * (gm_cr (Q q) (Q r)).1 + (Q p).2.1 * (gm_cr (Q q) (Q r)).2.1 + (Q p).2.2.1 * (gm_cr (Q q) (Q r)).2.2.1 = gm_dt (Q p) (Q q) (Q r) := by
    simp only [gm_cr, gm_dt]; grind
  rw [e]; exact h
theorem yw_met0 {post : Int32 → Prop} (hQ : yw_A gu gv gw gd n Q) (hn : n ≤ 16) {p q r : Nat} (hp : p < n) (hq : q < n) (hr : r < n)
    (h : post (nu_I (gm_cp (Q p) (Q q) (Q r)).1)) : wpY_met post (fn, fp, fk, nr, nb, gu, gv, gw, gd, gx, gy, gz, gb, gt, gf) (nI p) (nI q) (nI r) 0 := by
  have vp := vp_in_nI (n := p) (N := 16) (by omega) (by omega)
  have vq := vp_in_nI (n := q) (N := 16) (by omega) (by omega)
  have vr := vp_in_nI (n := r) (N := 16) (by omega) (by omega)
  refine ⟨vp, yw_cr0 hQ hn hq hr ⟨vq, yw_cr0 hQ hn hr hp ⟨vr, yw_cr0 hQ hn hp hq ?_⟩⟩⟩
  rw [nI_clamp (by omega), nI_clamp (by omega), nI_clamp (by omega), (hQ p hp).2.2.2, (hQ q hq).2.2.2, (hQ r hr).2.2.2, nu_mul, nu_mul, nu_mul, nu_add, nu_add]
  have e : (Q p).2.2.2 * (gm_cr (Q q) (Q r)).1 + (Q q).2.2.2 * (gm_cr (Q r) (Q p)).1 + (Q r).2.2.2 * (gm_cr (Q p) (Q q)).1 = (gm_cp (Q p) (Q q) (Q r)).1 := by
    simp only [gm_cr, gm_cp, gm_dt]; grind
  rw [e]; exact h
theorem yw_met1 {post : Int32 → Prop} (hQ : yw_A gu gv gw gd n Q) (hn : n ≤ 16) {p q r : Nat} (hp : p < n) (hq : q < n) (hr : r < n)
    (h : post (nu_I (gm_cp (Q p) (Q q) (Q r)).2.1)) : wpY_met post (fn, fp, fk, nr, nb, gu, gv, gw, gd, gx, gy, gz, gb, gt, gf) (nI p) (nI q) (nI r) 1 := by
  have vp := vp_in_nI (n := p) (N := 16) (by omega) (by omega)
  have vq := vp_in_nI (n := q) (N := 16) (by omega) (by omega)
  have vr := vp_in_nI (n := r) (N := 16) (by omega) (by omega)
  refine ⟨vp, yw_cr1 hQ hn hq hr ⟨vq, yw_cr1 hQ hn hr hp ⟨vr, yw_cr1 hQ hn hp hq ?_⟩⟩⟩
  rw [nI_clamp (by omega), nI_clamp (by omega), nI_clamp (by omega), (hQ p hp).2.2.2, (hQ q hq).2.2.2, (hQ r hr).2.2.2, nu_mul, nu_mul, nu_mul, nu_add, nu_add]
  have e : (Q p).2.2.2 * (gm_cr (Q q) (Q r)).2.1 + (Q q).2.2.2 * (gm_cr (Q r) (Q p)).2.1 + (Q r).2.2.2 * (gm_cr (Q p) (Q q)).2.1 = (gm_cp (Q p) (Q q) (Q r)).2.1 := by
    simp only [gm_cr, gm_cp, gm_dt]; grind
  rw [e]; exact h
theorem yw_met2 {post : Int32 → Prop} (hQ : yw_A gu gv gw gd n Q) (hn : n ≤ 16) {p q r : Nat} (hp : p < n) (hq : q < n) (hr : r < n)
    (h : post (nu_I (gm_cp (Q p) (Q q) (Q r)).2.2.1)) : wpY_met post (fn, fp, fk, nr, nb, gu, gv, gw, gd, gx, gy, gz, gb, gt, gf) (nI p) (nI q) (nI r) 2 := by
  have vp := vp_in_nI (n := p) (N := 16) (by omega) (by omega)
  have vq := vp_in_nI (n := q) (N := 16) (by omega) (by omega)
  have vr := vp_in_nI (n := r) (N := 16) (by omega) (by omega)
  refine ⟨vp, yw_cr2 hQ hn hq hr ⟨vq, yw_cr2 hQ hn hr hp ⟨vr, yw_cr2 hQ hn hp hq ?_⟩⟩⟩
  rw [nI_clamp (by omega), nI_clamp (by omega), nI_clamp (by omega), (hQ p hp).2.2.2, (hQ q hq).2.2.2, (hQ r hr).2.2.2, nu_mul, nu_mul, nu_mul, nu_add, nu_add]
  have e : (Q p).2.2.2 * (gm_cr (Q q) (Q r)).2.2.1 + (Q q).2.2.2 * (gm_cr (Q r) (Q p)).2.2.1 + (Q r).2.2.2 * (gm_cr (Q p) (Q q)).2.2.1 = (gm_cp (Q p) (Q q) (Q r)).2.2.1 := by
    simp only [gm_cr, gm_cp, gm_dt]; grind
  rw [e]; exact h
theorem yw_side {post : Int64 → Prop} (hQ : yw_A gu gv gw gd n Q) (hn : n ≤ 16) (hC : yw_A gx gy gz gb c f) (hc : c ≤ 40) {p k : Nat} (hp : p < n) (hk : k < c)
    (ok : gm_ok (Q p)) (bd : gm_bd (f k)) (h : post (nu_L (gm_ev (Q p) (f k)))) : wpY_side post (fn, fp, fk, nr, nb, gu, gv, gw, gd, gx, gy, gz, gb, gt, gf) (nI p) (nI k) := by
  obtain ⟨p0, p1, p2, p3⟩ := hQ p hp
  obtain ⟨k0, k1, k2, k3⟩ := hC k hk
  obtain ⟨a1, a2, a3, a4⟩ := ok
  obtain ⟨b1, b2, b3, b4⟩ := bd
  have vp := vp_in_nI (n := p) (N := 16) (by omega) (by omega)
  have vk := vp_in_nI (n := k) (N := 40) (by omega) (by omega)
  refine ⟨vp, vk, vp, vk, vp, vk, vp, vk, ?_⟩
  rw [nI_clamp (by omega), nI_clamp (by omega), p0, p1, p2, p3, k0, k1, k2, k3, nu_64 (by omega) (by omega), nu_64 (by omega) (by omega), nu_64 (by omega) (by omega), nu_64 (by omega) (by omega),
    nu_64 (by omega) (by omega), nu_64 (by omega) (by omega), nu_64 (by omega) (by omega), nu_64 (by omega) (by omega)]
  simp only [nu_Lmul, nu_Ladd, nu_Lsub]
  exact h
/-- the divisor: the steps that do nothing, then Euclid's -/
theorem yw_idle {post : Int32 → Prop} {g : Nat} (hg : g < 2 ^ 31) (h : post (nI (if g = 0 then 1 else g))) :
    ∀ d s : Nat, s + d = 60 → wY_common_26 post fn fp fk nr nb gu gv gw gd gx gy gz gb gt gf (d + 1) (nI g) 0 (nI s) := by
  intro d
  induction d with
  | zero =>
    intro s hs
    have : s = 60 := by omega
    subst this
    refine br_t (by decide) ?_
    by_cases e : g = 0
    · subst e
      rw [if_pos rfl] at h
      exact br_f (by decide) h
    · rw [if_neg e] at h
      exact br_t (nI_le (a := 1) (by omega) (by omega)) h
  | succ d ih =>
    intro s hs
    exact br_f (nI_ge (b := 60) (by omega) (by decide)) (br_t rfl (nm_r (nI_1 s) (ih (s + 1) (by omega))))
theorem yw_step {post : Int32 → Prop} {g h s m : Nat} (hg : g < 2 ^ 31) (hh : h < 2 ^ 31) (h0 : h ≠ 0) (hs : s < 60)
    (k : wY_common_26 post fn fp fk nr nb gu gv gw gd gx gy gz gb gt gf m (nI h) (nI (g % h)) (nI (s + 1))) : wY_common_26 post fn fp fk nr nb gu gv gw gd gx gy gz gb gt gf (m + 1) (nI g) (nI h) (nI s) := by
  have hz : ¬ nI h = 0 := nI_ne0 (by omega) hh
  exact br_f (nI_ge (b := 60) hs (by decide)) (br_f hz (br_f hz ⟨hz, nm_r (pk_rem hg (by omega) hh) (nm_r (nI_1 s) k)⟩))
theorem yw_c26 {post : Int32 → Prop} : ∀ (t g h s m : Nat), g < 2 ^ 31 → h < 2 ^ t → t ≤ 30 → s + 2 * t ≤ 60 → m + s = 61 →
    post (nI (if Nat.gcd g h = 0 then 1 else Nat.gcd g h)) → wY_common_26 post fn fp fk nr nb gu gv gw gd gx gy gz gb gt gf m (nI g) (nI h) (nI s) := by
  intro t
  induction t with
  | zero =>
    intro g h s m hg hh _ hs hm k
    have e : h = 0 := by simp at hh; omega
    subst e
    rw [Nat.gcd_zero_right] at k
    obtain ⟨m', rfl⟩ : ∃ m', m = m' + 1 := ⟨m - 1, by omega⟩
    exact yw_idle hg k m' s (by omega)
  | succ t ih =>
    intro g h s m hg hh ht hs hm k
    obtain ⟨m', rfl⟩ : ∃ m', m = m' + 1 := ⟨m - 1, by omega⟩
    have hp : 2 ^ (t + 1) ≤ 2 ^ 30 := Nat.pow_le_pow_right (by decide) ht
    by_cases e : h = 0
    · subst e
      rw [Nat.gcd_zero_right] at k
      exact yw_idle hg k m' s (by omega)
    · refine yw_step hg (by omega) e (by omega) ?_
      have hl : g % h < h := Nat.mod_lt _ (by omega)
      obtain ⟨m'', rfl⟩ : ∃ m'', m' = m'' + 1 := ⟨m' - 1, by omega⟩
      by_cases e2 : g % h = 0
      · rw [e2]
        refine yw_idle (by omega) ?_ m'' (s + 1) (by omega)
        have : Nat.gcd g h = h := by rw [← nu_eu (show 0 < h by omega), e2]; simp
        rw [this] at k
        exact k
      · refine yw_step (by omega) (by omega) e2 (by omega) ?_
        have hh2 := nu_half (B := h) (R := g % h) (by omega) hl
        refine ih _ _ _ _ (by omega) (by rw [Nat.pow_succ] at hh; omega) (by omega) (by omega) (by omega) ?_
        rw [nu_eu (show 0 < g % h by omega), nu_eu (show 0 < h by omega)]
        exact k
theorem yw_common {post : Int32 → Prop} {a b : Int} (h1 : a.natAbs < 2 ^ 30) (h2 : b.natAbs < 2 ^ 30)
    (h : post (nI (if Nat.gcd a.natAbs b.natAbs = 0 then 1 else Nat.gcd a.natAbs b.natAbs))) : wpY_common post (fn, fp, fk, nr, nb, gu, gv, gw, gd, gx, gy, gz, gb, gt, gf) (nu_I a) (nu_I b) := by
  have H : wY_common_10 post (nu_I b) (nI a.natAbs) fn fp fk nr nb gu gv gw gd gx gy gz gb gt gf := by
    by_cases c : 0 ≤ b
    · have e : nu_I b = nI b.natAbs := by rw [nu_nI]; congr 1; omega
      refine br_t ((nu_ge0 (by omega) (by omega)).mpr c) ⟨61, ?_⟩
      rw [e]
      exact yw_c26 30 _ _ 0 61 (by omega) h2 (by omega) (by omega) (by omega) h
    · have e : -nu_I b = nI b.natAbs := by rw [nu_neg, nu_nI]; congr 1; omega
      exact br_f (fun z => c ((nu_ge0 (by omega) (by omega)).mp z)) (nm_r e ⟨61, yw_c26 30 _ _ 0 61 (by omega) h2 (by omega) (by omega) (by omega) h⟩)
  by_cases c : 0 ≤ a
  · have e : nu_I a = nI a.natAbs := by rw [nu_nI]; congr 1; omega
    refine br_t ((nu_ge0 (by omega) (by omega)).mpr c) ?_
    rw [e]; exact H
  · have e : -nu_I a = nI a.natAbs := by rw [nu_neg, nu_nI]; congr 1; omega
    refine br_f (fun z => c ((nu_ge0 (by omega) (by omega)).mp z)) ?_
    rw [e]; exact H
end
