/-! The component: the meeting point of three planes, inside or not -/
section
def gm_c (p : gm_V) (a : Nat) : Int := match a with
  | 0 => p.1 | 1 => p.2.1 | 2 => p.2.2.1 | _ => p.2.2.2
theorem xw_Ca {a : Nat → Int32} {c : Nat} {f : Nat → gm_V} (h : xw_C a c f) {k i : Nat} (hk : k < c) (hi : i < 4) : a (4 * k + i) = nu_I (gm_c (f k) i) := by
  obtain ⟨h0, h1, h2, h3⟩ := h k hk
  match i, hi with
  | 0, _ => exact h0
  | 1, _ => exact h1
  | 2, _ => exact h2
  | 3, _ => exact h3
theorem xw_C_le {a : Nat → Int32} {c c' : Nat} {f : Nat → gm_V} (h : xw_C a c f) (hc : c' ≤ c) : xw_C a c' f := fun k hk => h k (by omega)
theorem xw_C_cg {a : Nat → Int32} {c : Nat} {f g : Nat → gm_V} (h : xw_C a c f) (e : ∀ k, k < c → f k = g k) : xw_C a c g := fun k hk => e k hk ▸ h k hk
theorem ls_ins_lo {f : Nat → gm_V} {p : gm_V} {k j : Nat} (h : j < k) : ls_ins f p k j = f j := if_pos h
theorem ls_ins_eq {f : Nat → gm_V} {p : gm_V} {k : Nat} : ls_ins f p k k = p := by unfold ls_ins; rw [if_neg (by omega), if_pos rfl]
theorem xw_put {a : Nat → Int32} {c : Nat} {f : Nat → gm_V} {p : gm_V} (h : xw_C a c f) :
    xw_C (upd (upd (upd (upd a (4 * c) (nu_I p.1)) (4 * c + 1) (nu_I p.2.1)) (4 * c + 2) (nu_I p.2.2.1)) (4 * c + 3) (nu_I p.2.2.2)) (c + 1) (ls_ins f p c) := by
  intro k hk
  by_cases e : k = c
  · subst e
    rw [ls_ins_eq]
    refine ⟨?_, ?_, ?_, ?_⟩
    · rw [pk_un (by omega), pk_un (by omega), pk_un (by omega), pk_us]
    · rw [pk_un (by omega), pk_un (by omega), pk_us]
    · rw [pk_un (by omega), pk_us]
    · rw [pk_us]
  · rw [ls_ins_lo (by omega)]
    obtain ⟨h0, h1, h2, h3⟩ := h k (by omega)
    refine ⟨?_, ?_, ?_, ?_⟩
    · rw [pk_un (by omega), pk_un (by omega), pk_un (by omega), pk_un (by omega)]; exact h0
    · rw [pk_un (by omega), pk_un (by omega), pk_un (by omega), pk_un (by omega)]; exact h1
    · rw [pk_un (by omega), pk_un (by omega), pk_un (by omega), pk_un (by omega)]; exact h2
    · rw [pk_un (by omega), pk_un (by omega), pk_un (by omega), pk_un (by omega)]; exact h3

variable {fc ff : Int32} {pl co tt st : Nat → Int32} {Q f : Nat → gm_V} {n c : Nat}
theorem xw_dW {post : Int32 → Prop} (hP : xw_C pl n Q) (hn : n ≤ 16) {i j k : Nat} (hi : i < n) (hj : j < n) (hk : k < n)
    (h : post (nu_I (gm_cp (Q i) (Q j) (Q k)).2.2.2)) : wpX_determinant post (fc, ff, pl, co, tt, st) (nI i) (nI j) (nI k) 0 1 2 := by
  refine xw_det (a := 0) (b := 1) (d := 2) (by omega) (by omega) (by omega) (by omega) (by omega) (by omega) ?_
  simp only [xw_Ca hP hi (show 0 < 4 by omega), xw_Ca hP hi (show 1 < 4 by omega), xw_Ca hP hi (show 2 < 4 by omega), xw_Ca hP hj (show 0 < 4 by omega), xw_Ca hP hj (show 1 < 4 by omega),
    xw_Ca hP hj (show 2 < 4 by omega), xw_Ca hP hk (show 0 < 4 by omega), xw_Ca hP hk (show 1 < 4 by omega), xw_Ca hP hk (show 2 < 4 by omega), nu_mul, nu_add, nu_sub]
  exact h
theorem xw_dX {post : Int32 → Prop} (hP : xw_C pl n Q) (hn : n ≤ 16) {i j k : Nat} (hi : i < n) (hj : j < n) (hk : k < n)
    (h : post (nu_I (gm_cp (Q i) (Q j) (Q k)).1)) : wpX_determinant post (fc, ff, pl, co, tt, st) (nI i) (nI j) (nI k) 3 1 2 := by
  refine xw_det (a := 3) (b := 1) (d := 2) (by omega) (by omega) (by omega) (by omega) (by omega) (by omega) ?_
  simp only [xw_Ca hP hi (show 3 < 4 by omega), xw_Ca hP hi (show 1 < 4 by omega), xw_Ca hP hi (show 2 < 4 by omega), xw_Ca hP hj (show 3 < 4 by omega), xw_Ca hP hj (show 1 < 4 by omega),
    xw_Ca hP hj (show 2 < 4 by omega), xw_Ca hP hk (show 3 < 4 by omega), xw_Ca hP hk (show 1 < 4 by omega), xw_Ca hP hk (show 2 < 4 by omega), nu_mul, nu_add, nu_sub]
  exact h
theorem xw_dY {post : Int32 → Prop} (hP : xw_C pl n Q) (hn : n ≤ 16) {i j k : Nat} (hi : i < n) (hj : j < n) (hk : k < n)
    (h : post (nu_I (gm_cp (Q i) (Q j) (Q k)).2.1)) : wpX_determinant post (fc, ff, pl, co, tt, st) (nI i) (nI j) (nI k) 0 3 2 := by
  refine xw_det (a := 0) (b := 3) (d := 2) (by omega) (by omega) (by omega) (by omega) (by omega) (by omega) ?_
  simp only [xw_Ca hP hi (show 0 < 4 by omega), xw_Ca hP hi (show 3 < 4 by omega), xw_Ca hP hi (show 2 < 4 by omega), xw_Ca hP hj (show 0 < 4 by omega), xw_Ca hP hj (show 3 < 4 by omega),
    xw_Ca hP hj (show 2 < 4 by omega), xw_Ca hP hk (show 0 < 4 by omega), xw_Ca hP hk (show 3 < 4 by omega), xw_Ca hP hk (show 2 < 4 by omega), nu_mul, nu_add, nu_sub]
  exact h
theorem xw_dZ {post : Int32 → Prop} (hP : xw_C pl n Q) (hn : n ≤ 16) {i j k : Nat} (hi : i < n) (hj : j < n) (hk : k < n)
    (h : post (nu_I (gm_cp (Q i) (Q j) (Q k)).2.2.1)) : wpX_determinant post (fc, ff, pl, co, tt, st) (nI i) (nI j) (nI k) 0 1 3 := by
  refine xw_det (a := 0) (b := 1) (d := 3) (by omega) (by omega) (by omega) (by omega) (by omega) (by omega) ?_
  simp only [xw_Ca hP hi (show 0 < 4 by omega), xw_Ca hP hi (show 1 < 4 by omega), xw_Ca hP hi (show 3 < 4 by omega), xw_Ca hP hj (show 0 < 4 by omega), xw_Ca hP hj (show 1 < 4 by omega),
    xw_Ca hP hj (show 3 < 4 by omega), xw_Ca hP hk (show 0 < 4 by omega), xw_Ca hP hk (show 1 < 4 by omega), xw_Ca hP hk (show 3 < 4 by omega), nu_mul, nu_add, nu_sub]
  exact h

theorem gm_g4_le {p : gm_V} (h : p.2.2.2 ≠ 0) : gm_g4 p ≤ p.2.2.2.natAbs := by
  have c : gm_g4 p ∣ Nat.gcd (Nat.gcd p.2.2.2.natAbs p.1.natAbs) p.2.1.natAbs := Nat.gcd_dvd_left _ _
  have c2 : gm_g4 p ∣ Nat.gcd p.2.2.2.natAbs p.1.natAbs := Nat.dvd_trans c (Nat.gcd_dvd_left _ _)
  have d1 : gm_g4 p ∣ p.2.2.2.natAbs := Nat.dvd_trans c2 (Nat.gcd_dvd_left _ _)
  exact Nat.le_of_dvd (by omega) d1

theorem xw_92 {post : Int32 → SX → Prop} {p : gm_V} (hb : gm_bd p) (hw : p.2.2.2 ≠ 0) (hC : xw_C co c f) (hc : c ≤ 32)
    (h : ∀ co', xw_C co' (c + 1) (ls_ins f (gm_red p) c) → post 1 (fc, nI c, pl, co', tt, st)) :
    wX_meetInPoint_92 post (nu_I p.2.2.2) (nu_I p.1) (nu_I p.2.1) (nu_I p.2.2.1) (nu_I (gm_q p)) fc (nI c) pl co tt st := by
  obtain ⟨b1, b2, b3, b4⟩ := hb
  have hq := gm_q_nz hw
  have hg := gm_g4_le hw
  have hq1 : -384 ≤ gm_q p ∧ gm_q p ≤ 384 := by
    unfold gm_q
    split <;> omega
  have hz : ¬ nu_I (gm_q p) = 0 := fun k => hq ((nu_eq0 (by omega) (by omega)).mp k)
  have v : ∀ x : Nat, x < 132 → vp_in (nI x) 132 := fun x hx => vp_in_nI hx (by omega)
  refine nm_r (xw_4 c) ?_
  rw [xw_a1, xw_a2, xw_a3, nI_clamp (by omega), nI_clamp (by omega), nI_clamp (by omega), nI_clamp (by omega)]
  refine ⟨hz, v _ (by omega), nm_e ⟨hz, v _ (by omega), nm_e ⟨hz, v _ (by omega), nm_e ⟨hz, v _ (by omega), nm_e ?_⟩⟩⟩⟩
  rw [nu_div (by omega) (by omega) (by omega) (by omega), nu_div (by omega) (by omega) (by omega) (by omega),
    nu_div (by omega) (by omega) (by omega) (by omega), nu_div (by omega) (by omega) (by omega) (by omega)]
  exact h _ (xw_put (p := gm_red p) hC)

theorem xw_meet {post : Int32 → SX → Prop} (hP : xw_C pl n Q) (hn : n ≤ 16) (hok : ∀ i, i < n → gm_ok (Q i)) (hC : xw_C co c f) (hc : c ≤ 32)
    {i j k : Nat} (hi : i < n) (hj : j < n) (hk : k < n)
    (h0 : gm_dt (Q i) (Q j) (Q k) = 0 → post 0 (fc, nI c, pl, co, tt, st))
    (h1 : gm_dt (Q i) (Q j) (Q k) ≠ 0 → ∀ co', xw_C co' (c + 1) (ls_ins f (gm_pt (Q i) (Q j) (Q k)) c) → post 1 (fc, nI c, pl, co', tt, st)) :
    wpX_meetInPoint post (fc, nI c, pl, co, tt, st) (nI i) (nI j) (nI k) := by
  have hb := gm_cp_bd (hok i hi) (hok j hj) (hok k hk)
  have hb' := hb
  obtain ⟨b1, b2, b3, b4⟩ := hb'
  unfold wpX_meetInPoint
  refine xw_dW hP hn hi hj hk ?_
  refine br_c (fun e => h0 ((nu_eq0 (a := (gm_cp (Q i) (Q j) (Q k)).2.2.2) (by omega) (by omega)).mp e)) (fun e => ?_)
  have hw : (gm_cp (Q i) (Q j) (Q k)).2.2.2 ≠ 0 := fun z => e ((nu_eq0 (by omega) (by omega)).mpr z)
  refine xw_dX hP hn hi hj hk ?_
  refine xw_dY hP hn hi hj hk ?_
  refine xw_dZ hP hn hi hj hk ?_
  have l1 : Nat.gcd (gm_cp (Q i) (Q j) (Q k)).2.2.2.natAbs (gm_cp (Q i) (Q j) (Q k)).1.natAbs ≤ (gm_cp (Q i) (Q j) (Q k)).2.2.2.natAbs :=
    Nat.le_of_dvd (by omega) (Nat.gcd_dvd_left _ _)
  have l0 : 0 < Nat.gcd (gm_cp (Q i) (Q j) (Q k)).2.2.2.natAbs (gm_cp (Q i) (Q j) (Q k)).1.natAbs := Nat.gcd_pos_of_pos_left _ (by omega)
  have l2 : Nat.gcd (Nat.gcd (gm_cp (Q i) (Q j) (Q k)).2.2.2.natAbs (gm_cp (Q i) (Q j) (Q k)).1.natAbs) (gm_cp (Q i) (Q j) (Q k)).2.1.natAbs
      ≤ Nat.gcd (gm_cp (Q i) (Q j) (Q k)).2.2.2.natAbs (gm_cp (Q i) (Q j) (Q k)).1.natAbs :=
    Nat.le_of_dvd l0 (Nat.gcd_dvd_left _ _)
  refine xw_gcd (by omega) (by omega) ?_
  refine xw_gcd (by omega) (by omega) ?_
  rw [Int.natAbs_natCast]
  refine xw_gcd (by omega) (by omega) ?_
  rw [Int.natAbs_natCast]
  have hq : gm_q (gm_cp (Q i) (Q j) (Q k)) = if (gm_cp (Q i) (Q j) (Q k)).2.2.2 < 0 then -(gm_g4 (gm_cp (Q i) (Q j) (Q k)) : Int) else (gm_g4 (gm_cp (Q i) (Q j) (Q k)) : Int) := rfl
  refine br_c (fun g => ?_) (fun g => ?_)
  · have g' := (nu_ge0 (by omega) (by omega)).mp g
    rw [if_neg (by omega)] at hq
    have := xw_92 (post := post) (fc := fc) (pl := pl) (tt := tt) (st := st) hb hw hC hc (h1 hw)
    rw [hq] at this
    exact this
  · have g' : (gm_cp (Q i) (Q j) (Q k)).2.2.2 < 0 := by
      rcases Int.lt_or_le (gm_cp (Q i) (Q j) (Q k)).2.2.2 0 with z | z
      · exact z
      · exact absurd ((nu_ge0 (by omega) (by omega)).mpr z) g
    rw [if_pos g'] at hq
    have := xw_92 (post := post) (fc := fc) (pl := pl) (tt := tt) (st := st) hb hw hC hc (h1 hw)
    rw [hq] at this
    exact nm_r (nu_neg _) this

/-- the left-out plane, as a number of the machine -/
def xw_L (n : Nat) (lf : Int32) (L : Nat → Prop) : Prop := ∀ p, p < n → (nI p = lf ↔ L p)
theorem xw_inside2 {post : Int32 → Prop} {lf : Int32} {L : Nat → Prop} (hL : xw_L n lf L) (hP : xw_C pl n Q) (hn : n ≤ 16) (hok : ∀ i, i < n → gm_ok (Q i))
    (hC : xw_C co (c + 1) f) (hc : c ≤ 32) (hb : gm_bd (f c))
    (h1 : gm_In Q (fun p => p < n ∧ ¬ L p) (f c) → post 1) (h0 : ¬ gm_In Q (fun p => p < n ∧ ¬ L p) (f c) → post 0) :
    ∀ (d p : Nat), p + d = n → (∀ q, q < p → ¬ L q → gm_ev (Q q) (f c) ≤ 0) → wX_isPointInside_2 post (nI n) lf fc (nI c) pl co tt st (d + 1) (nI p) := by
  intro d
  induction d with
  | zero =>
    intro p hp hI
    have : p = n := by omega
    subst this
    exact br_t (nI_le (Nat.le_refl _) (by omega)) (h1 fun i hi => hI i hi.1 hi.2)
  | succ d ih =>
    intro p hp hI
    refine br_f (nI_ge (by omega) (by omega)) (br_c (fun e => nm_r (nI_1 p) ?_) (fun e => ?_))
    · have lp := (hL p (by omega)).mp e
      refine ih (p + 1) (by omega) (fun q hq hl => ?_)
      by_cases z : q = p
      · subst z; exact absurd lp hl
      · exact hI q (by omega) hl
    · have lp : ¬ L p := fun z => e ((hL p (by omega)).mpr z)
      have eb := gm_ev_bd (hok p (by omega)) hb
      refine xw_excess hP hC (by omega) hn (by omega) (by omega) ?_
      refine br_c (fun g => nm_r (nI_1 p) ?_) (fun g => h0 fun hin => ?_)
      · have g' := (nu_le0 (by omega) (by omega)).mp g
        refine ih (p + 1) (by omega) (fun q hq hl => ?_)
        by_cases z : q = p
        · subst z; exact g'
        · exact hI q (by omega) hl
      · exact g ((nu_le0 (by omega) (by omega)).mpr (hin p ⟨by omega, lp⟩))
theorem xw_inside {post : Int32 → Prop} {lf : Int32} {L : Nat → Prop} (hL : xw_L n lf L) (hP : xw_C pl n Q) (hn : n ≤ 16) (hok : ∀ i, i < n → gm_ok (Q i))
    (hC : xw_C co (c + 1) f) (hc : c ≤ 32) (hb : gm_bd (f c))
    (h1 : gm_In Q (fun p => p < n ∧ ¬ L p) (f c) → post 1) (h0 : ¬ gm_In Q (fun p => p < n ∧ ¬ L p) (f c) → post 0) :
    wpX_isPointInside post (fc, nI c, pl, co, tt, st) (nI n) lf :=
  ⟨n + 1, xw_inside2 hL hP hn hok hC hc hb h1 h0 n 0 (by omega) (fun q hq => by omega)⟩
end
