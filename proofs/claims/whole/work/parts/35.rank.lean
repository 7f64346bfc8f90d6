/-! The reference's rank, and dimensions -/
section
variable {fc ff : Int32} {pl co tt st : Nat → Int32} {Q f : Nat → gm_V} {n c : Nat} {M : Nat → Nat} {D : Nat → Int} {P : Nat → Prop}
variable {fn fp fk : Int32} {nr nb gu gv gw gd gx gy gz gb gt gf : Nat → Int32}
theorem rk_cr_bd {a b : gm_V} (ha : gm_ok a) (hb : gm_ok b) : (-32 ≤ (gm_cr a b).1 ∧ (gm_cr a b).1 ≤ 32) ∧ (-32 ≤ (gm_cr a b).2.1 ∧ (gm_cr a b).2.1 ≤ 32) ∧ (-32 ≤ (gm_cr a b).2.2.1 ∧ (gm_cr a b).2.2.1 ≤ 32) := by
  obtain ⟨a1, a2, a3, _⟩ := ha
  obtain ⟨b1, b2, b3, _⟩ := hb
  have p1 := nu_pb (A := 4) (B := 4) a2.1 a2.2 b3.1 b3.2
  have p2 := nu_pb (A := 4) (B := 4) a3.1 a3.2 b2.1 b2.2
  have p3 := nu_pb (A := 4) (B := 4) a3.1 a3.2 b1.1 b1.2
  have p4 := nu_pb (A := 4) (B := 4) a1.1 a1.2 b3.1 b3.2
  have p5 := nu_pb (A := 4) (B := 4) a1.1 a1.2 b2.1 b2.2
  have p6 := nu_pb (A := 4) (B := 4) a2.1 a2.2 b1.1 b1.2
  simp only [gm_cr]
  omega
theorem rk_dt_bd {a b d : gm_V} (ha : gm_ok a) (hb : gm_ok b) (hd : gm_ok d) : -384 ≤ gm_dt a b d ∧ gm_dt a b d ≤ 384 := (gm_cp_bd ha hb hd).2.2.2
/-- what the reference's loop knows before plane s -/
def rk_I (Q : Nat → gm_V) (P : Nat → Prop) (s : Nat) (x y : Int32) : Prop :=
  (x = -1 ∧ y = -1 ∧ ∀ i, i < s → ¬ P i) ∨
  (∃ p, x = nI p ∧ y = -1 ∧ p < s ∧ P p ∧ ∀ i, i < s → P i → gm_cr (Q p) (Q i) = (0, 0, 0, 0)) ∨
  (∃ p q, x = nI p ∧ y = nI q ∧ p < s ∧ q < s ∧ P p ∧ P q ∧ gm_cr (Q p) (Q q) ≠ (0, 0, 0, 0) ∧ ∀ i, i < s → P i → gm_dt (Q p) (Q q) (Q i) = 0)
theorem rk_dt_cr0 {a b d : gm_V} (h : gm_cr a d = (0, 0, 0, 0)) : gm_dt a b d = 0 := by
  simp only [gm_cr, Prod.mk.injEq] at h
  obtain ⟨h1, h2, h3, _⟩ := h
  simp only [gm_dt]; grind
theorem rk_dt_b (a b : gm_V) : gm_dt a b b = 0 := by simp only [gm_dt]; grind
theorem yw_rank7 {post : Int32 → Prop} {m : Nat} (hQ : yw_A gu gv gw gd n Q) (hn : n ≤ 16) (hok : ∀ i, i < n → gm_ok (Q i)) (hm : nu_ms m n P) (h : ∀ r, rk_is Q (fun i => i < n ∧ P i) r → post (nI r)) :
    ∀ (d s : Nat) (x y : Int32), s + d = n → rk_I Q P s x y → wY_rank_7 post (nI m) fn (nI n) fk nr nb gu gv gw gd gx gy gz gb gt gf (d + 1) x y (nI s) := by
  intro d
  induction d with
  | zero =>
    intro s x y hs hI
    have : s = n := by omega
    subst this
    refine br_t (nI_le (Nat.le_refl _) (by omega)) ?_
    rcases hI with ⟨rfl, rfl, h1⟩ | ⟨p, rfl, rfl, h1, h2, h3⟩ | ⟨p, q, rfl, rfl, h1, h2, h3, h4, h5, h6⟩
    · exact br_f (by decide) (h 0 (.inl ⟨rfl, fun i hi => h1 i hi.1 hi.2⟩))
    · exact br_t (nI_pos' (by omega)) (br_f (by decide) (h 1 (.inr (.inl ⟨rfl, p, ⟨h1, h2⟩, fun i hi => h3 i hi.1 hi.2⟩))))
    · exact br_t (nI_pos' (by omega)) (br_t (nI_pos' (by omega)) (h 2 (.inr (.inr (.inl ⟨rfl, p, q, ⟨h1, h3⟩, ⟨h2, h4⟩, h5, fun i hi => h6 i hi.1 hi.2⟩)))))
  | succ d ih =>
    intro s x y hs hI
    have hb := nx_bit1 hm hn (show s < n by omega)
    refine br_f (nI_ge (by omega) (by omega)) ?_
    by_cases ps : P s
    · refine br_t (hb.1 ps) ?_
      rcases hI with ⟨rfl, rfl, h1⟩ | ⟨p, rfl, rfl, h1, h2, h3⟩ | ⟨p, q, rfl, rfl, h1, h2, h3, h4, h5, h6⟩
      · refine br_f (by decide) (nm_r (nI_1 s) (ih (s + 1) _ _ (by omega) (.inr (.inl ⟨s, rfl, rfl, by omega, ps, fun i hi pi => ?_⟩))))
        by_cases e : i = s
        · subst e; simp only [gm_cr, Prod.mk.injEq]; refine ⟨?_, ?_, ?_, by trivial⟩ <;> grind
        · exact absurd pi (h1 i (by omega))
      · have B := rk_cr_bd (hok p (by omega)) (hok s (by omega))
        have N : gm_cr (Q p) (Q s) ≠ (0, 0, 0, 0) → ∀ z, z = nI s + 1 → wY_rank_7 post (nI m) fn (nI n) fk nr nb gu gv gw gd gx gy gz gb gt gf (d + 1) (nI p) (nI s) z := by
          intro hc
          refine nm_r (nI_1 s) (ih (s + 1) _ _ (by omega) (.inr (.inr ⟨p, s, rfl, rfl, by omega, by omega, h2, ps, hc, fun i hi pi => ?_⟩)))
          by_cases e : i = s
          · subst e; exact rk_dt_b _ _
          · exact rk_dt_cr0 (h3 i (by omega) pi)
        refine br_t (nI_pos' (by omega)) (br_f (by decide) (yw_cr0 hQ hn (by omega) (by omega) (br_c (fun e0 => ?_) (fun e0 => ?_))))
        · have z0 := (nu_eq0 (by omega) (by omega)).mp e0
          refine yw_cr1 hQ hn (by omega) (by omega) (br_c (fun e1 => ?_) (fun e1 => ?_))
          · have z1 := (nu_eq0 (by omega) (by omega)).mp e1
            refine yw_cr2 hQ hn (by omega) (by omega) (br_c (fun e2 => ?_) (fun e2 => ?_))
            · have z2 := (nu_eq0 (by omega) (by omega)).mp e2
              refine br_t (by decide) (nm_r (nI_1 s) (ih (s + 1) _ _ (by omega) (.inr (.inl ⟨p, rfl, rfl, by omega, h2, fun i hi pi => ?_⟩))))
              by_cases e : i = s
              · subst e; exact Prod.ext z0 (Prod.ext z1 (Prod.ext z2 rfl))
              · exact h3 i (by omega) pi
            · exact N (fun z => e2 (by rw [z]; rfl))
          · exact N (fun z => e1 (by rw [z]; rfl))
        · exact N (fun z => e0 (by rw [z]; rfl))
      · have B := rk_dt_bd (hok p (by omega)) (hok q (by omega)) (hok s (by omega))
        refine br_t (nI_pos' (by omega)) (br_t (nI_pos' (by omega)) (br_f (nI_pos (by omega)) (yw_det hQ hn (by omega) (by omega) (by omega) (br_c (fun e => ?_) (fun e => ?_)))))
        · have z := (nu_eq0 (by omega) (by omega)).mp e
          refine nm_r (nI_1 s) (ih (s + 1) _ _ (by omega) (.inr (.inr ⟨p, q, rfl, rfl, by omega, by omega, h3, h4, h5, fun i hi pi => ?_⟩)))
          by_cases e : i = s
          · subst e; exact z
          · exact h6 i (by omega) pi
        · have z := (not_congr (nu_eq0 (by omega) (by omega))).mp e
          exact h 3 (.inr (.inr (.inr ⟨rfl, p, q, s, ⟨by omega, h3⟩, ⟨by omega, h4⟩, ⟨by omega, ps⟩, z⟩)))
    · refine br_f (by rw [hb.2 ps]; decide) (nm_r (nI_1 s) (ih (s + 1) _ _ (by omega) ?_))
      rcases hI with ⟨e1, e2, h1⟩ | ⟨p, e1, e2, h1, h2, h3⟩ | ⟨p, q, e1, e2, h1, h2, h3, h4, h5, h6⟩
      · refine .inl ⟨e1, e2, fun i hi => ?_⟩
        by_cases e : i = s
        · subst e; exact ps
        · exact h1 i (by omega)
      · refine .inr (.inl ⟨p, e1, e2, by omega, h2, fun i hi pi => ?_⟩)
        by_cases e : i = s
        · subst e; exact absurd pi ps
        · exact h3 i (by omega) pi
      · refine .inr (.inr ⟨p, q, e1, e2, by omega, by omega, h3, h4, h5, fun i hi pi => ?_⟩)
        by_cases e : i = s
        · subst e; exact absurd pi ps
        · exact h6 i (by omega) pi
theorem yw_rank {post : Int32 → Prop} {m : Nat} (hQ : yw_A gu gv gw gd n Q) (hn : n ≤ 16) (hok : ∀ i, i < n → gm_ok (Q i)) (hm : nu_ms m n P) (h : ∀ r, rk_is Q (fun i => i < n ∧ P i) r → post (nI r)) :
    wpY_rank post (fn, nI n, fk, nr, nb, gu, gv, gw, gd, gx, gy, gz, gb, gt, gf) (nI m) := ⟨n + 1, yw_rank7 hQ hn hok hm h n 0 (-1) (-1) (by omega) (.inl ⟨rfl, rfl, fun i hi => by omega⟩)⟩
theorem rk_cg {S S' : Nat → Prop} {r : Nat} (e : ∀ i, S i ↔ S' i) (h : rk_is Q S r) : rk_is Q S' r := by
  have : S = S' := funext fun i => propext (e i)
  rw [← this]; exact h
theorem nu_ms_cg {m : Nat} {P' : Nat → Prop} (e : ∀ i, i < n → (P i ↔ P' i)) (h : nu_ms m n P) : nu_ms m n P' := by
  intro i
  rw [h i]
  constructor
  · intro a; exact ⟨a.1, (e i a.1).mp a.2⟩
  · intro a; exact ⟨a.1, (e i a.1).mpr a.2⟩
/-- a bit of a mask of corners -/
theorem nx_Lbit {m c k : Nat} {W : Nat → Prop} (h : nu_ms m c W) (hc : c ≤ 32) (hk : k < c) :
    (W k → (lN m >>> ((nI k).toInt64 &&& 63)) &&& 1 = 1) ∧ (¬ W k → (lN m >>> ((nI k).toInt64 &&& 63)) &&& 1 = 0) := by
  have hl := nu_ms_lt h
  have h32 : 2 ^ c ≤ 2 ^ 32 := Nat.pow_le_pow_right (by decide) hc
  have e1 : ((lN k).toBitVec.smod 64).toNat = k := by
    rw [wb_tb, wb_sm k (by omega), BitVec.toNat_ofNat]
    exact Nat.mod_eq_of_lt (by omega)
  rw [wb_c k (by omega), pf_shr (d := k) e1 (by omega), wb_a1 (Nat.lt_of_le_of_lt (Nat.div_le_self _ _) (by omega))]
  have hb := h k
  rw [Nat.testBit_eq_decide_div_mod_eq, decide_eq_true_eq] at hb
  refine ⟨fun a => ?_, fun a => ?_⟩
  · rw [hb.mpr ⟨hk, a⟩]; rfl
  · have : m / 2 ^ k % 2 = 0 := by
      have : ¬ m / 2 ^ k % 2 = 1 := fun z => a (hb.mp z).2
      omega
    rw [this]; rfl
theorem nu_ms_all (n : Nat) : nu_ms (2 ^ n - 1) n (fun _ => True) := by
  intro i
  rw [Nat.testBit_two_pow_sub_one, decide_eq_true_eq]
  simp
theorem yw_sh12 {post : Int32 → Prop} {w : Nat} {W : Nat → Prop} (hT : xw_T gt c n Q f) (hc : c ≤ 32) (hn : n ≤ 16) (hw : nu_ms w c W)
    (h : ∀ s, nu_ms s n (fun i => ∀ k, k < c → W k → gm_ev (Q i) (f k) = 0) → post (nI s)) :
    ∀ (d k s : Nat), k + d = c → nu_ms s n (fun i => ∀ j, j < k → W j → gm_ev (Q i) (f j) = 0) → wY_shared_12 post (lN w) fn fp (nI c) nr nb gu gv gw gd gx gy gz gb gt gf (d + 1) (nI s) (nI k) := by
  intro d
  induction d with
  | zero =>
    intro k s hk hs
    have : k = c := by omega
    subst this
    exact br_t (nI_le (Nat.le_refl _) (by omega)) (h s hs)
  | succ d ih =>
    intro k s hk hs
    have hb := nx_Lbit hw hc (show k < c by omega)
    refine br_f (nI_ge (by omega) (by omega)) ?_
    by_cases wk : W k
    · obtain ⟨m, hm, hms⟩ := hT k (by omega)
      refine br_t (hb.1 wk) ⟨vp_in_nI (by omega) (by omega), ?_⟩
      rw [nI_clamp (by omega), hm]
      refine nm_r (nx_and _ _) (nm_r (nI_1 k) (ih (k + 1) _ (by omega) (nu_ms_cg (fun i hi => ?_) (nu_ms_and hs hms))))
      constructor
      · intro a j hj wj
        by_cases e : j = k
        · subst e; exact a.2
        · exact a.1 j (by omega) wj
      · intro a
        exact ⟨fun j hj wj => a j (by omega) wj, a k (by omega) wk⟩
    · refine br_f (by rw [hb.2 wk]; decide) (nm_r (nI_1 k) (ih (k + 1) s (by omega) (nu_ms_cg (fun i hi => ?_) hs)))
      constructor
      · intro a j hj wj
        by_cases e : j = k
        · subst e; exact absurd wj wk
        · exact a j (by omega) wj
      · intro a j hj wj
        exact a j (by omega) wj
theorem yw_shared {post : Int32 → Prop} {w : Nat} {W : Nat → Prop} (hT : xw_T gt c n Q f) (hc : c ≤ 32) (hn : n ≤ 16) (hw : nu_ms w c W)
    (h : ∀ s, nu_ms s n (fun i => ∀ k, k < c → W k → gm_ev (Q i) (f k) = 0) → post (nI s)) : wpY_shared post (fn, nI n, nI c, nr, nb, gu, gv, gw, gd, gx, gy, gz, gb, gt, gf) (lN w) := by
  have hp : 1 ≤ 2 ^ n := Nat.one_le_two_pow
  unfold wpY_shared
  dsimp only
  rw [nx_bitp (by omega)]
  refine nm_r (pk_sub (a := 2 ^ n) (b := 1) hp) ⟨c + 1, yw_sh12 hT hc hn hw h c 0 (2 ^ n - 1) (by omega) (nu_ms_cg (fun i hi => ?_) (nu_ms_all n))⟩
  exact ⟨fun _ j hj => by omega, fun _ => trivial⟩
theorem yw_dimOf {post : Int32 → Prop} {w : Nat} {W : Nat → Prop} (hQ : yw_A gu gv gw gd n Q) (hn : n ≤ 16) (hok : ∀ i, i < n → gm_ok (Q i)) (hT : xw_T gt c n Q f) (hc : c ≤ 32) (hw : nu_ms w c W)
    (h0 : (∀ k, k < c → ¬ W k) → post (-1)) (h1 : (∃ k, k < c ∧ W k) → ∀ r, rk_is Q (fun i => i < n ∧ ∀ k, k < c → W k → gm_ev (Q i) (f k) = 0) r → post (3 - nI r)) :
    wpY_dimensionOf post (fn, nI n, nI c, nr, nb, gu, gv, gw, gd, gx, gy, gz, gb, gt, gf) (lN w) := by
  have hl := nu_ms_lt hw
  have h32 : 2 ^ c ≤ 2 ^ 32 := Nat.pow_le_pow_right (by decide) hc
  by_cases e : w = 0
  · exact br_t (by rw [e]; rfl) (h0 ((nu_ms_z hw).mp e))
  · have hx : ∃ k, k < c ∧ W k := by
      apply Classical.byContradiction
      intro hn
      exact e ((nu_ms_z hw).mpr (fun k hk wk => hn ⟨k, hk, wk⟩))
    refine br_f (fun z => e ((pk_lEQ (b := 0) (by omega) (by omega)).mp z)) (yw_shared hT hc hn hw (fun s hs => yw_rank hQ hn hok hs (fun r hr => h1 hx r hr)))
theorem yw_all {post : Int64 → Prop} (hc : c ≤ 32) (h : ∀ w, nu_ms w c (fun _ => True) → post (lN w)) : wpY_all post (fn, fp, nI c, nr, nb, gu, gv, gw, gd, gx, gy, gz, gb, gt, gf) := by
  have hp : 1 ≤ 2 ^ c := Nat.one_le_two_pow
  unfold wpY_all
  dsimp only
  rw [show (1 : Int64) = lN 1 from rfl, wb_shl 1 (by omega), Nat.one_mul, lN_sub hp]
  exact h _ (nu_ms_all c)
end
