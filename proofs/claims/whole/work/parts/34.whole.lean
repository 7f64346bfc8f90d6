/-! whole: the same points counted in two orders -/
section
theorem wh_enum (P : Nat → Prop) : ∀ N : Nat, ∃ g : Nat → Nat, (∀ t, t < gm_cn P N → g t < N ∧ P (g t)) ∧ (∀ s t, s < t → t < gm_cn P N → g s ≠ g t) ∧ ∀ k, k < N → P k → ∃ t, t < gm_cn P N ∧ g t = k := by
  intro N
  induction N with
  | zero => exact ⟨fun _ => 0, fun t ht => absurd ht (Nat.not_lt_zero t), fun s t _ ht => absurd ht (Nat.not_lt_zero t), fun k hk => by omega⟩
  | succ N ih =>
    obtain ⟨g, h1, h2, h3⟩ := ih
    by_cases p : P N
    · rw [gm_cn_t p]
      refine ⟨fun t => if t = gm_cn P N then N else g t, fun t ht => ?_, fun s t hst ht => ?_, fun k hk pk => ?_⟩
      · by_cases e : t = gm_cn P N
        · simp only [if_pos e]; exact ⟨by omega, p⟩
        · simp only [if_neg e]
          have := h1 t (by omega)
          exact ⟨by omega, this.2⟩
      · simp only [if_neg (show ¬ s = gm_cn P N by omega)]
        by_cases e : t = gm_cn P N
        · simp only [if_pos e]
          have := (h1 s (by omega)).1
          omega
        · simp only [if_neg e]; exact h2 s t hst (by omega)
      · by_cases e : k = N
        · subst e; exact ⟨gm_cn P k, by omega, if_pos rfl⟩
        · obtain ⟨t, ht, et⟩ := h3 k (by omega) pk
          exact ⟨t, by omega, by show (if t = gm_cn P N then N else g t) = k; rw [if_neg (by omega)]; exact et⟩
    · rw [gm_cn_f p]
      refine ⟨g, fun t ht => ?_, h2, fun k hk pk => ?_⟩
      · have := h1 t ht
        exact ⟨by omega, this.2⟩
      · by_cases e : k = N
        · subst e; exact absurd pk p
        · exact h3 k (by omega) pk
theorem wh_perm {P P' : Nat → Prop} {N : Nat} (s : Nat → Nat) (h1 : ∀ i, i < N → s i < N) (h2 : ∀ i, i < N → s (s i) = i) (h3 : ∀ i, i < N → (P i ↔ P' (s i))) : gm_cn P N = gm_cn P' N := by
  obtain ⟨g, g1, g2, g3⟩ := wh_enum P N
  refine (sh_cn_bij N (fun t => s (g t)) (gm_cn P N) P' (fun t ht => ?_) (fun a b hab hb e => ?_) (fun k hk pk => ?_)).symm
  · obtain ⟨a, b⟩ := g1 t ht
    exact ⟨h1 _ a, (h3 _ a).mp b⟩
  · apply g2 a b hab hb
    have := congrArg s e
    rwa [h2 _ (g1 a (by omega)).1, h2 _ (g1 b hb).1] at this
  · obtain ⟨t, ht, e⟩ := g3 (s k) (h1 k hk) ((h3 _ (h1 k hk)).mpr (by rw [h2 k hk]; exact pk))
    refine ⟨t, ht, ?_⟩
    show s (g t) = k
    rw [e, h2 k hk]
theorem gm_cn_cg {P P' : Nat → Prop} {N : Nat} (h : ∀ i, i < N → (P i ↔ P' i)) : gm_cn P N = gm_cn P' N := by
  have a := gm_cn_le (P := P) (P' := P') N (fun i hi => (h i hi).mp)
  have b := gm_cn_le (P := P') (P' := P) N (fun i hi => (h i hi).mpr)
  omega

variable {fc ff : Int32} {pl co tt st : Nat → Int32} {Q f : Nat → gm_V} {n c : Nat} {M : Nat → Nat} {D : Nat → Int}
variable {fn fp fk : Int32} {nr nb gu gv gw gd gx gy gz gb gt gf : Nat → Int32}
theorem wh_bd {a : gm_V} (ok : gm_ok a) {x y z : Int} (hx : -8 ≤ x ∧ x ≤ 8) (hy : -8 ≤ y ∧ y ≤ 8) (hz : -8 ≤ z ∧ z ≤ 8) :
    (-96 ≤ a.1 * x + a.2.1 * y + a.2.2.1 * z ∧ a.1 * x + a.2.1 * y + a.2.2.1 * z ≤ 96) ∧ (gm_ev a (x, y, z, 1) ≤ 0 ↔ a.1 * x + a.2.1 * y + a.2.2.1 * z ≤ a.2.2.2) := by
  obtain ⟨a1, a2, a3, a4⟩ := ok
  have p1 := nu_pb (A := 4) (B := 8) a1.1 a1.2 hx.1 hx.2
  have p2 := nu_pb (A := 4) (B := 8) a2.1 a2.2 hy.1 hy.2
  have p3 := nu_pb (A := 4) (B := 8) a3.1 a3.2 hz.1 hz.2
  refine ⟨⟨by omega, by omega⟩, ?_⟩
  simp only [gm_ev]
  omega
theorem xw_hold3 {post : Int32 → Prop} {x y z : Int} (hP : xw_C pl (6 + n) Q) (hn : n ≤ 8) (hok : ∀ i, i < 6 + n → gm_ok (Q i)) (hx : -8 ≤ x ∧ x ≤ 8) (hy : -8 ≤ y ∧ y ≤ 8) (hz : -8 ≤ z ∧ z ≤ 8)
    (h1 : (∀ i, i < n → gm_ev (Q (6 + i)) (x, y, z, 1) ≤ 0) → post 1) (h0 : ¬ (∀ i, i < n → gm_ev (Q (6 + i)) (x, y, z, 1) ≤ 0) → post 0) :
    ∀ d i : Nat, i + d = n → (∀ j, j < i → gm_ev (Q (6 + j)) (x, y, z, 1) ≤ 0) → wX_cutsHold_3 post (nu_I x) (nu_I y) (nu_I z) (nI n) ff pl co tt st (d + 1) (nI i) := by
  intro d
  induction d with
  | zero =>
    intro i hi hI
    have : i = n := by omega
    subst this
    exact br_t (nI_le (Nat.le_refl _) (by omega)) (h1 hI)
  | succ d ih =>
    intro i hi hI
    have v : ∀ x : Nat, x < 64 → vp_in (nI x) 64 := fun x hx => vp_in_nI hx (by omega)
    obtain ⟨q0, q1, q2, q3⟩ := hP (6 + i) (by omega)
    have ok := hok (6 + i) (by omega)
    obtain ⟨b1, b2⟩ := wh_bd ok hx hy hz
    have b3 := ok.2.2.2
    refine br_f (nI_ge (by omega) (by omega)) (nm_r (xw_64 i) ?_)
    rw [xw_a1, xw_a2, xw_a3, nI_clamp (by omega), nI_clamp (by omega), nI_clamp (by omega), nI_clamp (by omega), q0, q1, q2, q3, nu_mul, nu_mul, nu_mul, nu_add, nu_add]
    refine ⟨v _ (by omega), v _ (by omega), v _ (by omega), v _ (by omega), br_c (fun g => ?_) (fun g => ?_)⟩
    · have g' := b2.mpr ((nu_le (by omega) (by omega) (by omega) (by omega)).mp g)
      refine nm_r (nI_1 i) (ih (i + 1) (by omega) (fun j hj => ?_))
      by_cases e : j = i
      · subst e; exact g'
      · exact hI j (by omega)
    · exact h0 (fun w => g ((nu_le (by omega) (by omega) (by omega) (by omega)).mpr (b2.mp (w i (by omega)))))
theorem xw_hold {post : Int32 → Prop} {x y z : Int} (hP : xw_C pl (6 + n) Q) (hn : n ≤ 8) (hok : ∀ i, i < 6 + n → gm_ok (Q i)) (hx : -8 ≤ x ∧ x ≤ 8) (hy : -8 ≤ y ∧ y ≤ 8) (hz : -8 ≤ z ∧ z ≤ 8)
    (h1 : (∀ i, i < n → gm_ev (Q (6 + i)) (x, y, z, 1) ≤ 0) → post 1) (h0 : ¬ (∀ i, i < n → gm_ev (Q (6 + i)) (x, y, z, 1) ≤ 0) → post 0) :
    wpX_cutsHold post (nI n, ff, pl, co, tt, st) (nu_I x) (nu_I y) (nu_I z) := ⟨n + 1, xw_hold3 hP hn hok hx hy hz h1 h0 n 0 (by omega) (fun j hj => by omega)⟩
theorem yw_isIn3 {post : Int32 → Prop} {x y z : Int} (hQ : yw_A gu gv gw gd n Q) (hn : n ≤ 16) (hok : ∀ i, i < n → gm_ok (Q i)) (hx : -8 ≤ x ∧ x ≤ 8) (hy : -8 ≤ y ∧ y ≤ 8) (hz : -8 ≤ z ∧ z ≤ 8)
    (h1 : (∀ i, i < n → gm_ev (Q i) (x, y, z, 1) ≤ 0) → post 1) (h0 : ¬ (∀ i, i < n → gm_ev (Q i) (x, y, z, 1) ≤ 0) → post 0) :
    ∀ d i : Nat, i + d = n → (∀ j, j < i → gm_ev (Q j) (x, y, z, 1) ≤ 0) → wY_isIn_3 post (nu_I x) (nu_I y) (nu_I z) fn (nI n) fk nr nb gu gv gw gd gx gy gz gb gt gf (d + 1) (nI i) := by
  intro d
  induction d with
  | zero =>
    intro i hi hI
    have : i = n := by omega
    subst this
    exact br_t (nI_le (Nat.le_refl _) (by omega)) (h1 hI)
  | succ d ih =>
    intro i hi hI
    have v := vp_in_nI (n := i) (N := 16) (by omega) (by omega)
    obtain ⟨q0, q1, q2, q3⟩ := hQ i (by omega)
    have ok := hok i (by omega)
    obtain ⟨b1, b2⟩ := wh_bd ok hx hy hz
    have b3 := ok.2.2.2
    refine br_f (nI_ge (by omega) (by omega)) ⟨v, v, v, v, ?_⟩
    rw [nI_clamp (by omega), q0, q1, q2, q3, nu_mul, nu_mul, nu_mul, nu_add, nu_add]
    refine br_c (fun g => ?_) (fun g => ?_)
    · have g' := b2.mpr ((nu_le (by omega) (by omega) (by omega) (by omega)).mp g)
      refine nm_r (nI_1 i) (ih (i + 1) (by omega) (fun j hj => ?_))
      by_cases e : j = i
      · subst e; exact g'
      · exact hI j (by omega)
    · exact h0 (fun w => g ((nu_le (by omega) (by omega) (by omega) (by omega)).mpr (b2.mp (w i (by omega)))))
/-- the point with number q, x first -/
def wh_H (Q : Nat → gm_V) (n q : Nat) : Prop := ∀ i, i < n → gm_ev (Q (6 + i)) ((q / 289 : Nat) - 8, (q / 17 % 17 : Nat) - 8, (q % 17 : Nat) - 8, 1) ≤ 0
def wh_K (Q : Nat → gm_V) (n q : Nat) : Prop := ∀ i, i < n → gm_ev (Q i) ((q % 17 : Nat) - 8, (q / 17 % 17 : Nat) - 8, (q / 289 : Nat) - 8, 1) ≤ 0
theorem wh_8 (a : Nat) : nu_I ((a : Nat) - 8) + 1 = nu_I (((a + 1 : Nat) : Int) - 8) := by
  rw [show (1 : Int32) = nu_I 1 by decide, nu_add]
  congr 1
  omega
theorem xw_wh24 {post : Int32 → Prop} {J5 J14 : Int32 → Int32 → Prop} {a b : Nat} (hP : xw_C pl (6 + n) Q) (hn : n ≤ 8) (hok : ∀ i, i < 6 + n → gm_ok (Q i)) (ha : a < 17) (hb : b < 17)
    (h : J14 (nI (gm_cn (wh_H Q n) (289 * a + 17 * (b + 1)))) (nu_I (((b + 1 : Nat) : Int) - 8))) :
    ∀ d t : Nat, t + d = 17 → wX_whole_24 post J5 J14 (nu_I ((a : Int) - 8)) (nu_I ((b : Int) - 8)) (nI n) ff pl co tt st (d + 1) (nI (gm_cn (wh_H Q n) (289 * a + 17 * b + t))) (nu_I ((t : Int) - 8)) := by
  intro d
  induction d with
  | zero =>
    intro t ht
    have : t = 17 := by omega
    subst this
    refine br_t (by decide) (nm_r (wh_8 b) ?_)
    rw [show 289 * a + 17 * b + 17 = 289 * a + 17 * (b + 1) by omega]
    exact h
  | succ d ih =>
    intro t ht
    have hH : wh_H Q n (289 * a + 17 * b + t) ↔ ∀ i, i < n → gm_ev (Q (6 + i)) ((a : Int) - 8, (b : Int) - 8, (t : Int) - 8, 1) ≤ 0 := by
      unfold wh_H
      rw [show (289 * a + 17 * b + t) / 289 = a by omega, show (289 * a + 17 * b + t) / 17 % 17 = b by omega, show (289 * a + 17 * b + t) % 17 = t by omega]
    have hlt : ¬ (8 : Int32) < nu_I ((t : Int) - 8) := by
      rw [show (8 : Int32) = nu_I 8 by decide, nu_lt (by omega) (by omega) (by omega) (by omega)]
      omega
    have nx := ih (t + 1) (by omega)
    refine br_f hlt (xw_hold hP hn hok (by omega) (by omega) (by omega) (fun g => ?_) (fun g => ?_))
    · rw [show 289 * a + 17 * b + (t + 1) = (289 * a + 17 * b + t) + 1 by omega, gm_cn_t (hH.mpr g)] at nx
      exact br_f (by decide) (nm_r (nI_1 _) (nm_r (wh_8 t) nx))
    · rw [show 289 * a + 17 * b + (t + 1) = (289 * a + 17 * b + t) + 1 by omega, gm_cn_f (fun z => g (hH.mp z))] at nx
      exact br_t rfl (nm_r (wh_8 t) nx)
theorem xw_wh14 {post : Int32 → Prop} {J5 : Int32 → Int32 → Prop} {a : Nat} (hP : xw_C pl (6 + n) Q) (hn : n ≤ 8) (hok : ∀ i, i < 6 + n → gm_ok (Q i)) (ha : a < 17)
    (h : J5 (nI (gm_cn (wh_H Q n) (289 * (a + 1)))) (nu_I (((a + 1 : Nat) : Int) - 8))) :
    ∀ d b : Nat, b + d = 17 → wX_whole_14 post J5 (nu_I ((a : Int) - 8)) (nI n) ff pl co tt st (d + 1) (nI (gm_cn (wh_H Q n) (289 * a + 17 * b))) (nu_I ((b : Int) - 8)) := by
  intro d
  induction d with
  | zero =>
    intro b hb
    have : b = 17 := by omega
    subst this
    refine br_t (by decide) (nm_r (wh_8 a) ?_)
    rw [show 289 * a + 17 * 17 = 289 * (a + 1) by omega]
    exact h
  | succ d ih =>
    intro b hb
    have hlt : ¬ (8 : Int32) < nu_I ((b : Int) - 8) := by
      rw [show (8 : Int32) = nu_I 8 by decide, nu_lt (by omega) (by omega) (by omega) (by omega)]
      omega
    refine br_f hlt ⟨18, ?_⟩
    have := xw_wh24 (post := post) (J5 := J5) (J14 := wX_whole_14 post J5 (nu_I ((a : Int) - 8)) (nI n) ff pl co tt st (d + 1)) (ff := ff) (co := co) (tt := tt) (st := st) hP hn hok ha (show b < 17 by omega) (ih (b + 1) (by omega)) 17 0 (by omega)
    exact this
theorem xw_wh5 {post : Int32 → Prop} (hP : xw_C pl (6 + n) Q) (hn : n ≤ 8) (hok : ∀ i, i < 6 + n → gm_ok (Q i)) (h : post (nI (gm_cn (wh_H Q n) 4913))) :
    ∀ d a : Nat, a + d = 17 → wX_whole_5 post (nI n) ff pl co tt st (d + 1) (nI (gm_cn (wh_H Q n) (289 * a))) (nu_I ((a : Int) - 8)) := by
  intro d
  induction d with
  | zero =>
    intro a ha
    have : a = 17 := by omega
    subst this
    exact br_t (by decide) h
  | succ d ih =>
    intro a ha
    have hlt : ¬ (8 : Int32) < nu_I ((a : Int) - 8) := by
      rw [show (8 : Int32) = nu_I 8 by decide, nu_lt (by omega) (by omega) (by omega) (by omega)]
      omega
    refine br_f hlt ⟨18, ?_⟩
    have := xw_wh14 (post := post) (J5 := wX_whole_5 post (nI n) ff pl co tt st (d + 1)) (ff := ff) (co := co) (tt := tt) (st := st) hP hn hok (show a < 17 by omega) (ih (a + 1) (by omega)) 17 0 (by omega)
    exact this
theorem yw_17 {q : Nat} (hq : q < 4913) : (nI q - nI q / 17 * 17) - 8 = nu_I ((q % 17 : Nat) - 8) := by
  rw [show (17 : Int32) = nI 17 from rfl, pk_rem (by omega) (by omega) (by omega), show (8 : Int32) = nu_I 8 by decide, nu_nI, nu_sub]
theorem yw_1717 {q : Nat} (hq : q < 4913) : ((nI q / 17) - (nI q / 17) / 17 * 17) - 8 = nu_I ((q / 17 % 17 : Nat) - 8) := by
  rw [show (17 : Int32) = nI 17 from rfl, pk_div (by omega) (by omega) (by omega), pk_rem (by omega) (by omega) (by omega), show (8 : Int32) = nu_I 8 by decide, nu_nI, nu_sub]
theorem yw_289 {q : Nat} (hq : q < 4913) : (nI q / 289) - 8 = nu_I ((q / 289 : Nat) - 8) := by
  rw [show (289 : Int32) = nI 289 from rfl, pk_div (by omega) (by omega) (by omega), show (8 : Int32) = nu_I 8 by decide, nu_nI, nu_sub]
theorem yw_wh9 {post : Int32 → SY → Prop} (hQ : yw_A gu gv gw gd n Q) (hn : n ≤ 16) (hok : ∀ i, i < n → gm_ok (Q i)) (h : post (nI (gm_cn (wh_K Q n) 4913)) (fn, nI n, fk, nr, nb, gu, gv, gw, gd, gx, gy, gz, gb, gt, gf)) :
    ∀ d q : Nat, q + d = 4913 → wY_whole_9 post fn (nI n) fk nr nb gu gv gw gd gx gy gz gb gt gf (d + 1) (nI (gm_cn (wh_K Q n) q)) (nI q) := by
  intro d
  induction d with
  | zero =>
    intro q hq
    have : q = 4913 := by omega
    subst this
    exact br_t (by decide) h
  | succ d ih =>
    intro q hq
    refine br_f (nI_ge (b := 4913) (by omega) (by decide)) ⟨by decide, by decide, by decide, by decide, ?_⟩
    rw [yw_17 (by omega), yw_1717 (by omega), yw_289 (by omega)]
    have nx := ih (q + 1) (by omega)
    refine ⟨n + 1, yw_isIn3 hQ hn hok (by omega) (by omega) (by omega) (fun g => ?_) (fun g => ?_) n 0 (by omega) (fun j hj => by omega)⟩
    · rw [gm_cn_t (P := wh_K Q n) g] at nx
      exact br_f (by decide) (nm_r (nI_1 _) (nm_r (nI_1 q) nx))
    · rw [gm_cn_f (P := wh_K Q n) g] at nx
      exact br_t rfl (nm_r (nI_1 q) nx)
theorem wh_box {x y z : Int} (hx : -8 ≤ x ∧ x ≤ 8) (hy : -8 ≤ y ∧ y ≤ 8) (hz : -8 ≤ z ∧ z ≤ 8) : ∀ i, i < 6 → gm_ev (gm_bx i) (x, y, z, 1) ≤ 0 := by
  intro i hi
  have : i = 0 ∨ i = 1 ∨ i = 2 ∨ i = 3 ∨ i = 4 ∨ i = 5 := by omega
  rcases this with e | e | e | e | e | e <;> subst e <;> simp only [gm_ev, gm_bx] <;> omega
theorem wh_eq : gm_cn (wh_H (rl_Q M D) n) 4913 = gm_cn (wh_K (rl_Q M D) (6 + n)) 4913 := by
  refine wh_perm (fun q => 289 * (q % 17) + 17 * (q / 17 % 17) + q / 289) (fun i hi => by omega) (fun i hi => ?_) (fun i hi => ?_)
  · have e1 : (289 * (i % 17) + 17 * (i / 17 % 17) + i / 289) % 17 = i / 289 := by omega
    have e2 : (289 * (i % 17) + 17 * (i / 17 % 17) + i / 289) / 17 % 17 = i / 17 % 17 := by omega
    have e3 : (289 * (i % 17) + 17 * (i / 17 % 17) + i / 289) / 289 = i % 17 := by omega
    show 289 * ((289 * (i % 17) + 17 * (i / 17 % 17) + i / 289) % 17) + 17 * ((289 * (i % 17) + 17 * (i / 17 % 17) + i / 289) / 17 % 17) + (289 * (i % 17) + 17 * (i / 17 % 17) + i / 289) / 289 = i
    rw [e1, e2, e3]
    omega
  have e1 : (289 * (i % 17) + 17 * (i / 17 % 17) + i / 289) % 17 = i / 289 := by omega
  have e2 : (289 * (i % 17) + 17 * (i / 17 % 17) + i / 289) / 17 % 17 = i / 17 % 17 := by omega
  have e3 : (289 * (i % 17) + 17 * (i / 17 % 17) + i / 289) / 289 = i % 17 := by omega
  unfold wh_H wh_K
  rw [e1, e2, e3]
  constructor
  · intro h j hj
    by_cases e : j < 6
    · rw [rl_Q6 j e]
      exact wh_box (by omega) (by omega) (by omega) j e
    · have := h (j - 6) (by omega)
      rwa [show 6 + (j - 6) = j by omega] at this
  · intro h j hj
    exact h (6 + j) (by omega)
theorem i_vc_whole {k : Nat} {u : SX} {v : SY} (I : i_Rel k u v) (hk : k + 3 ≤ 1536) : wpX_whole (fun r => wpY_whole (fun r' v' => r' = r ∧ i_Rel (k + 3) u v') v) u := by
  obtain ⟨fc, ff, pl, co, tt, st⟩ := u
  obtain ⟨fn, fp, fk, nr, nb, gu, gv, gw, gd, gx, gy, gz, gb, gt, gf⟩ := v
  obtain ⟨n, M, D, e1, e2, hR⟩ := I
  dsimp only at e1 e2 hR
  subst e1 e2
  have hn8 := hR.1.1
  have hok := fun i hi => (rl_Q_ok hR.1 i hi).1
  unfold wpX_whole
  refine ⟨18, ?_⟩
  have := xw_wh5 (ff := ff) (co := co) (tt := tt) (st := st) hR.2.2 hn8 hok (post := fun r => wpY_whole (fun r' v' => r' = r ∧ i_Rel (k + 3) (nI n, ff, pl, co, tt, st) v') (nI n, fp, fk, nr, nb, gu, gv, gw, gd, gx, gy, gz, gb, gt, gf)) ?_ 17 0 (by omega)
  · exact this
  · unfold wpY_whole
    refine yw_set hR.1 hR.2.1 (fun gu gv gw gd g1 => ?_)
    refine ⟨4914, yw_wh9 g1 (by omega) hok ⟨?_, n, M, D, rfl, rfl, hR⟩ 4913 0 (by omega)⟩
    rw [wh_eq]
end
