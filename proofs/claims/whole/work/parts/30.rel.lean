/-! The relation, the constructors, cut and drop -/
section
variable {fc ff : Int32} {pl co tt st : Nat → Int32} {Q f : Nat → gm_V} {n c : Nat}
variable {fn fp fk : Int32} {nr nb gu gv gw gd gx gy gz gb gt gf : Nat → Int32}
theorem xw_ix {post : Int32 → Prop} {v : Int32} {c : Nat} (hc : c < 2 ^ 31) (h1 : ∀ k, k < c → v = nI k → post 1) (h0 : (¬ ∃ k, k < c ∧ v = nI k) → post 0) :
    (v < 0 → post 0) ∧ (¬ v < 0 → (nI c ≤ v → post 0) ∧ (¬ nI c ≤ v → post 1)) := by
  refine br_c (fun e => h0 (fun hx => ?_)) (fun e => br_c (fun g => h0 (fun hx => ?_)) (fun g => ?_))
  · obtain ⟨k, hk, z⟩ := hx
    rw [z] at e
    exact nI_pos (by omega) e
  · obtain ⟨k, hk, z⟩ := hx
    rw [z] at g
    exact nI_ge hk hc g
  · obtain ⟨k, hk, z⟩ := nI_of e
    rw [z] at g
    refine h1 k ?_ z
    rcases Nat.lt_or_ge k c with y | y
    · exact y
    · exact absurd (nI_le y hk) g
theorem xw_isN {post : Int32 → Prop} {v : Int32} (h1 : ∀ k, k < 729 → v = nI k → post 1) (h0 : (¬ ∃ k, k < 729 ∧ v = nI k) → post 0) : wpX_isNormal post v := xw_ix (c := 729) (by omega) h1 h0
theorem xw_isA {post : Int32 → Prop} {v : Int32} (h1 : ∀ k, k < 3 → v = nI k → post 1) (h0 : (¬ ∃ k, k < 3 ∧ v = nI k) → post 0) : wpX_isAxis post v := xw_ix (c := 3) (by omega) h1 h0
theorem xw_isC {post : Int32 → Prop} {v : Int32} (hn : n < 2 ^ 31) (h1 : ∀ k, k < n → v = nI k → post 1) (h0 : (¬ ∃ k, k < n ∧ v = nI k) → post 0) : wpX_isCut post (nI n, ff, pl, co, tt, st) v := xw_ix hn h1 h0
theorem xw_isK {post : Int32 → Prop} {v : Int32} (hn : c < 2 ^ 31) (h1 : ∀ k, k < c → v = nI k → post 1) (h0 : (¬ ∃ k, k < c ∧ v = nI k) → post 0) : wpX_isCorner post (fc, nI c, pl, co, tt, st) v := xw_ix hn h1 h0
theorem yw_ix {post : Int32 → Prop} {v hi : Int32} {c : Nat} (hc : c < 2 ^ 31) (hh : hi = nI c - 1) (h1 : ∀ k, k < c → v = nI k → post 1) (h0 : (¬ ∃ k, k < c ∧ v = nI k) → post 0) :
    wpY_in post (fn, fp, fk, nr, nb, gu, gv, gw, gd, gx, gy, gz, gb, gt, gf) v 0 hi := by
  refine br_c (fun e => h0 (fun hx => ?_)) (fun e => br_c (fun g => h0 (fun hx => ?_)) (fun g => ?_))
  · obtain ⟨k, hk, z⟩ := hx
    rw [z] at e
    exact nI_pos (by omega) e
  · obtain ⟨k, hk, z⟩ := hx
    rw [z, hh] at g
    obtain ⟨c', rfl⟩ : ∃ c', c = c' + 1 := ⟨c - 1, by omega⟩
    rw [nI_pred] at g
    exact nI_nlt (by omega) (by omega) g
  · obtain ⟨k, hk, z⟩ := nI_of e
    refine h1 k ?_ z
    rcases Nat.lt_or_ge k c with y | y
    · exact y
    · exfalso
      apply g
      rw [z, hh]
      by_cases c0 : c = 0
      · subst c0
        have : nI 0 - 1 < 0 := by decide
        exact Int32.lt_of_lt_of_le this (nI_pos' hk)
      · obtain ⟨c', rfl⟩ : ∃ c', c = c' + 1 := ⟨c - 1, by omega⟩
        rw [nI_pred]
        exact nI_lt (by omega) hk

/-- one plane written -/
def xw_ap (pl pl' : Nat → Int32) (p : Nat) (q : gm_V) : Prop :=
  (∀ i, i < 4 * p ∨ 4 * p + 4 ≤ i → pl' i = pl i) ∧ pl' (4 * p) = nu_I q.1 ∧ pl' (4 * p + 1) = nu_I q.2.1 ∧ pl' (4 * p + 2) = nu_I q.2.2.1 ∧ pl' (4 * p + 3) = nu_I q.2.2.2
theorem xw_ap_C {pl pl' : Nat → Int32} {p : Nat} {q : gm_V} (h : xw_ap pl pl' p q) (hC : xw_C pl p Q) (hq : Q p = q) : xw_C pl' (p + 1) Q := by
  intro k hk
  by_cases e : k = p
  · subst e; rw [hq]; exact h.2
  · rw [h.1 _ (by omega), h.1 _ (by omega), h.1 _ (by omega), h.1 _ (by omega)]
    exact hC k (by omega)
theorem xw_ap_lo {pl pl' : Nat → Int32} {p m : Nat} {q : gm_V} (h : xw_ap pl pl' p q) (hm : m ≤ p) (hC : xw_C pl m Q) : xw_C pl' m Q := by
  intro k hk
  rw [h.1 _ (by omega), h.1 _ (by omega), h.1 _ (by omega), h.1 _ (by omega)]
  exact hC k hk
/-- the first t cells written -/
def xw_pp (pl pl' : Nat → Int32) (p t : Nat) (q : gm_V) : Prop :=
  (∀ i, i < 4 * p ∨ 4 * p + t ≤ i → pl' i = pl i) ∧ ∀ o, o < t → pl' (4 * p + o) = nu_I (gm_c q o)
theorem xw_pp_s {pl pl' : Nat → Int32} {p t : Nat} {q : gm_V} (h : xw_pp pl pl' p t q) : xw_pp pl (upd pl' (4 * p + t) (nu_I (gm_c q t))) p (t + 1) q := by
  refine ⟨fun i hi => ?_, fun o ho => ?_⟩
  · rw [pk_un (by omega)]; exact h.1 i (by omega)
  · by_cases e : o = t
    · subst e; exact pk_us
    · rw [pk_un (by omega)]; exact h.2 o (by omega)
theorem xw_pp_4 {pl pl' : Nat → Int32} {p : Nat} {q : gm_V} (h : xw_pp pl pl' p 4 q) : xw_ap pl pl' p q :=
  ⟨h.1, h.2 0 (by omega), h.2 1 (by omega), h.2 2 (by omega), h.2 3 (by omega)⟩
theorem xw_ax_c {a t : Nat} {s d : Int} (ha : a < 3) (ht : t < 3) : gm_c (rl_ax a s d) t = if t = a then s else 0 := by
  have : t = 0 ∨ t = 1 ∨ t = 2 := by omega
  have : a = 0 ∨ a = 1 ∨ a = 2 := by omega
  rcases ‹t = 0 ∨ _› with e | e | e <;> rcases ‹a = 0 ∨ _› with g | g | g <;> subst e <;> subst g <;> rfl
theorem xw_ac3 {post : SX → Prop} {p a : Nat} {s d : Int} (hp : p < 16) (ha : a < 3) (h : ∀ pl', xw_ap pl pl' p (rl_ax a s d) → post (fc, ff, pl', co, tt, st)) :
    ∀ (k t : Nat) (pl' : Nat → Int32), t + k = 3 → xw_pp pl pl' p t (rl_ax a s d) → wX_setPlaneAcross_3 post (nI p) (nI a) (nu_I s) (nu_I d) fc ff (k + 1) (nI t) pl' co tt st := by
  have v : ∀ x : Nat, x < 64 → vp_in (nI x) 64 := fun x hx => vp_in_nI hx (by omega)
  intro k
  induction k with
  | zero =>
    intro t pl' ht hI
    have : t = 3 := by omega
    subst this
    refine br_t (by decide) ?_
    rw [xw_4, xw_a3, nI_clamp (by omega)]
    exact ⟨v _ (by omega), nm_e (h _ (xw_pp_4 (xw_pp_s hI)))⟩
  | succ k ih =>
    intro t pl' ht hI
    have c1 := xw_ax_c (s := s) (d := d) ha (show t < 3 by omega)
    have hs := xw_pp_s hI
    rw [c1] at hs
    refine br_f (nI_ge (b := 3) (by omega) (by decide)) ?_
    rw [xw_4, nI_add, nI_clamp (by omega)]
    by_cases e : t = a
    · rw [if_pos e] at hs
      exact br_t (by rw [e]) ⟨v _ (by omega), nm_e (nm_r (nI_1 t) (ih (t + 1) _ (by omega) hs))⟩
    · rw [if_neg e, ← nu_0] at hs
      exact br_f (fun z => e ((nI_eq (by omega) (by omega)).mp z)) ⟨v _ (by omega), nm_e (nm_r (nI_1 t) (ih (t + 1) _ (by omega) hs))⟩
theorem xw_across {post : SX → Prop} {p a : Nat} {s d : Int} {s' d' : Int32} (es : s' = nu_I s) (ed : d' = nu_I d) (hp : p < 16) (ha : a < 3) (h : ∀ pl', xw_ap pl pl' p (rl_ax a s d) → post (fc, ff, pl', co, tt, st)) :
    wpX_setPlaneAcross post (fc, ff, pl, co, tt, st) (nI p) (nI a) s' d' := by
  subst es ed
  exact ⟨4, xw_ac3 hp ha h 3 0 pl (by omega) ⟨fun _ _ => rfl, fun o ho => by omega⟩⟩
theorem xw_2 (k : Nat) : (2 : Int32) * nI k = nI (2 * k) := pk_mul 2 k
theorem xw_init49 {post : SX → Prop} (h : ∀ pl, xw_C pl 6 gm_bx → post (fc, ff, pl, co, tt, st)) :
    ∀ (k a : Nat) (pl : Nat → Int32), a + k = 3 → xw_C pl (2 * a) gm_bx → wX_init_49 post (k + 1) (nI a) fc ff pl co tt st := by
  intro k
  induction k with
  | zero =>
    intro a pl ha hC
    have : a = 3 := by omega
    subst this
    exact br_t (by decide) (h pl hC)
  | succ k ih =>
    intro a pl ha hC
    have b := rl_bx0 a (by omega)
    refine br_f (nI_ge (b := 3) (by omega) (by decide)) ?_
    rw [xw_2]
    refine xw_across (s := 1) (d := 8) (by decide) (by decide) (by omega) (by omega) (fun pl1 h1 => ?_)
    dsimp only
    rw [xw_a1 (2 * a)]
    refine xw_across (s := -1) (d := 8) (by decide) (by decide) (by omega) (by omega) (fun pl2 h2 => ?_)
    exact nm_r (nI_1 a) (ih (a + 1) pl2 (by omega) (xw_ap_C h2 (xw_ap_C h1 hC b.1) b.2))

/-- the two states hold the same cuts -/
def rl_R (n : Nat) (M : Nat → Nat) (D : Nat → Int) (pl nr nb : Nat → Int32) : Prop := rl_ok n M D ∧ yw_N nr nb n M D ∧ xw_C pl (6 + n) (rl_Q M D)
def i_Rel (_ : Nat) (u : SX) (v : SY) : Prop := ∃ n M D, u.1 = nI n ∧ v.1 = nI n ∧ rl_R n M D u.2.2.1 v.2.2.2.1 v.2.2.2.2.1
theorem i_up {k : Nat} {u : SX} {v : SY} (h : i_Rel k u v) : i_Rel (k + 3) u v := h
theorem i_vc0 : wpX_init (fun u => wpY_init (fun v => i_Rel 0 u v)) := by
  refine ⟨4, xw_init49 (fun pl hC => ?_) 3 0 _ (by omega) (fun k hk => by omega)⟩
  refine ⟨0, fun _ => 0, fun _ => 0, rfl, rfl, ⟨by omega, fun i hi => by omega⟩, fun i hi => by omega, ?_⟩
  exact xw_C_cg hC (fun k hk => (if_pos hk).symm)

theorem rl_ct_c {M a : Nat} {d : Int} (ha : a < 3) : gm_c (rl_ct M d) a = if a = 0 then ((M % 9 : Nat) : Int) - 4 else if a = 1 then ((M / 9 % 9 : Nat) : Int) - 4 else ((M / 81 : Nat) : Int) - 4 := by
  have : a = 0 ∨ a = 1 ∨ a = 2 := by omega
  rcases this with e | e | e <;> subst e <;> rfl
theorem xw_part {post : Int32 → Prop} {M a : Nat} {d : Int} (hM : M ≤ 728) (ha : a < 3) (h : post (nu_I (gm_c (rl_ct M d) a))) : wpX_part post (nI M) (nI a) := by
  rw [rl_ct_c ha] at h
  have : a = 0 ∨ a = 1 ∨ a = 2 := by omega
  rcases this with e | e | e
  · subst e
    refine br_t rfl ⟨by decide, ?_⟩
    rw [yw_p9 hM]; exact h
  · subst e
    refine br_f (by decide) (br_t rfl ⟨by decide, by decide, ?_⟩)
    rw [yw_p99 hM]; exact h
  · subst e
    refine br_f (by decide) (br_f (by decide) ⟨by decide, ?_⟩)
    rw [yw_p81 hM]; exact h
theorem xw_cut54 {post : Int32 → SX → Prop} {p M : Nat} {d : Int} (hp : p < 16) (hM : M ≤ 728) (hn : n < 8) (h : ∀ pl', xw_ap pl pl' p (rl_ct M d) → post (nI (n + 1)) (nI (n + 1), ff, pl', co, tt, st)) :
    ∀ (k t : Nat) (pl' : Nat → Int32), t + k = 3 → xw_pp pl pl' p t (rl_ct M d) → wX_cut_54 post (nI M) (nu_I d) (nI (4 * p)) (nI n) ff (k + 1) (nI t) pl' co tt st := by
  have v : ∀ x : Nat, x < 64 → vp_in (nI x) 64 := fun x hx => vp_in_nI hx (by omega)
  intro k
  induction k with
  | zero =>
    intro t pl' ht hI
    have : t = 3 := by omega
    subst this
    refine br_t (by decide) ?_
    rw [xw_a3, nI_clamp (by omega)]
    exact ⟨v _ (by omega), nm_e (nm_r (nI_1 n) (h _ (xw_pp_4 (xw_pp_s hI))))⟩
  | succ k ih =>
    intro t pl' ht hI
    refine br_f (nI_ge (b := 3) (by omega) (by decide)) (xw_part (d := d) hM (by omega) ?_)
    rw [nI_add, nI_clamp (by omega)]
    exact ⟨v _ (by omega), nm_e (nm_r (nI_1 t) (ih (t + 1) _ (by omega) (xw_pp_s hI)))⟩
/-- a cut is added -/
theorem rl_push {M : Nat → Nat} {D : Nat → Int} {m : Nat} {d : Int} {pl' : Nat → Int32} (h : rl_R n M D pl nr nb) (hn : n < 8) (h1 : m ≤ 728) (h2 : m ≠ 364) (h3 : -60 ≤ d) (h4 : d ≤ 60)
    (hp : xw_ap pl pl' (6 + n) (rl_ct m d)) : rl_R (n + 1) (fun i => if i = n then m else M i) (fun i => if i = n then d else D i) pl' (upd nr n (nI m)) (upd nb n (nu_I d)) := by
  obtain ⟨⟨k1, k2⟩, k3, k4⟩ := h
  refine ⟨⟨by omega, fun i hi => ?_⟩, fun i hi => ?_, ?_⟩
  · by_cases e : i = n
    · simp only [if_pos e]; exact ⟨h1, h2, h3, h4⟩
    · simp only [if_neg e]; exact k2 i (by omega)
  · by_cases e : i = n
    · subst e; rw [pk_us, pk_us]; simp
    · rw [pk_un e, pk_un e]; simp only [if_neg e]; exact k3 i (by omega)
  · have hC : xw_C pl (6 + n) (rl_Q (fun i => if i = n then m else M i) (fun i => if i = n then d else D i)) := by
      refine xw_C_cg k4 (fun k hk => ?_)
      unfold rl_Q
      by_cases e : k < 6
      · rw [if_pos e, if_pos e]
      · rw [if_neg e, if_neg e]
        simp only [if_neg (show ¬ k - 6 = n by omega)]
    have e6 : rl_Q (fun i => if i = n then m else M i) (fun i => if i = n then d else D i) (6 + n) = rl_ct m d := by
      unfold rl_Q
      rw [if_neg (by omega), show 6 + n - 6 = n by omega]
      simp
    have := xw_ap_C hp hC e6
    exact this
theorem xw_64 (k : Nat) : (4 : Int32) * (6 + nI k) = nI (4 * (6 + k)) := by
  rw [show (6 : Int32) = nI 6 from rfl, nI_add]; exact pk_mul 4 (6 + k)
theorem i_vc_cut {k : Nat} {u : SX} {v : SY} (I : i_Rel k u v) (hk : k + 3 ≤ 1536) (v1 : Int32) (v2 : Int32) : wpX_cut (fun r u' => wpY_cut (fun r' v' => r' = r ∧ i_Rel (k + 3) u' v') v v1 v2) u v1 v2 := by
  obtain ⟨fc, ff, pl, co, tt, st⟩ := u
  obtain ⟨fn, fp, fk, nr, nb, gu, gv, gw, gd, gx, gy, gz, gb, gt, gf⟩ := v
  have I' := I
  obtain ⟨n, M, D, e1, e2, hR⟩ := I
  dsimp only at e1 e2 hR
  subst e1 e2
  have hn8 := hR.1.1
  by_cases hn : n < 8
  · have hnY : ¬ nI n = 8 := fun z => by
      have := (nI_eq (b := 8) (by omega) (by omega)).mp z
      omega
    refine br_t (nI_lt (b := 8) hn (by decide)) (xw_isN (fun m hm e => ?_) (fun hx => ?_))
    · subst e
      refine br_f (by decide) (br_c (fun g => ?_) (fun g => br_c (fun a => ?_) (fun a => br_c (fun b => ?_) (fun b => ?_))))
      · exact br_f hnY (yw_ix (c := 729) (by omega) (by decide) (fun _ _ _ => br_f (by decide) (br_t g ⟨rfl, I'⟩)) (fun hx => absurd ⟨m, hm, rfl⟩ hx))
      · exact br_f hnY (yw_ix (c := 729) (by omega) (by decide) (fun _ _ _ => br_f (by decide) (br_f g (br_t a (br_t rfl ⟨rfl, I'⟩)))) (fun hx => absurd ⟨m, hm, rfl⟩ hx))
      · have hm4 : m ≠ 364 := fun z => g (by rw [z]; rfl)
        have b0 : (-60 : Int32) ≤ v2 := Int32.not_lt.mp a
        have d1 : -60 ≤ v2.toInt := by
          have := Int32.le_iff_toInt_le.mp b0
          rwa [show (-60 : Int32).toInt = -60 by decide] at this
        have d2 : v2.toInt ≤ 60 := by
          have := Int32.le_iff_toInt_le.mp b
          rwa [show (60 : Int32).toInt = 60 by decide] at this
        rw [nu_of v2] at a b
        rw [nu_of v2]
        refine nm_r (xw_64 n) ⟨4, xw_cut54 (p := 6 + n) (by omega) (by omega) hn (fun pl' hp => ?_) 3 0 pl (by omega) ⟨fun _ _ => rfl, fun o ho => by omega⟩⟩
        refine br_f hnY (yw_ix (c := 729) (by omega) (by decide) (fun _ _ _ => br_f (by decide) (br_f g ?_)) (fun hx => absurd ⟨m, hm, rfl⟩ hx))
        refine br_f a (br_f (Int32.not_lt.mpr b) (br_f (by decide) ?_))
        have vn := vp_in_nI (n := n) (N := 8) hn (by omega)
        rw [nI_clamp (by omega)]
        exact ⟨vn, nm_e ⟨vn, nm_e (nm_r (nI_1 n) ⟨rfl, n + 1, _, _, rfl, rfl, rl_push hR hn (by omega) hm4 d1 d2 hp⟩)⟩⟩
      · exact br_f hnY (yw_ix (c := 729) (by omega) (by decide) (fun _ _ _ => br_f (by decide) (br_f g (br_f a (br_t (Int32.not_le.mp b) (br_t rfl ⟨rfl, I'⟩))))) (fun hx => absurd ⟨m, hm, rfl⟩ hx))
    · exact br_t rfl (br_f hnY (yw_ix (c := 729) (by omega) (by decide) (fun m hm e => absurd ⟨m, hm, e⟩ hx) (fun _ => br_t rfl ⟨rfl, I'⟩)))
  · have : n = 8 := by omega
    subst this
    exact br_f (by decide) (br_t rfl ⟨rfl, I'⟩)
end
