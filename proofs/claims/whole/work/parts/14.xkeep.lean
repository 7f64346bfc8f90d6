/-! The component: order, swap, and the point put in its place -/
section
variable {fc ff : Int32} {pl co tt st : Nat → Int32} {Q f : Nat → gm_V} {n c : Nat}
theorem gm_c_bd {p : gm_V} (h : gm_bd p) {a : Nat} (ha : a < 3) : -5760 ≤ gm_c p a ∧ gm_c p a ≤ 5760 := by
  obtain ⟨h1, h2, h3, _⟩ := h
  match a, ha with
  | 0, _ => exact h1
  | 1, _ => exact h2
  | 2, _ => exact h3
theorem gm_o_bd {p q : gm_V} (hp : gm_bd p) (hq : gm_bd q) {a : Nat} (ha : a < 3) :
    -4423680 ≤ gm_c p a * q.2.2.2 - gm_c q a * p.2.2.2 ∧ gm_c p a * q.2.2.2 - gm_c q a * p.2.2.2 ≤ 4423680 := by
  have p1 := gm_c_bd hp ha
  have q1 := gm_c_bd hq ha
  have k1 := nu_pb (A := 5760) (B := 384) p1.1 p1.2 hq.2.2.2.1 hq.2.2.2.2
  have k2 := nu_pb (A := 5760) (B := 384) q1.1 q1.2 hp.2.2.2.1 hp.2.2.2.2
  omega
theorem xw_along {post : Int32 → Prop} (hC : xw_C co c f) (hc : c ≤ 33) {k l a : Nat} (hk : k < c) (hl : l < c) (ha : a < 3)
    (h : post (nu_I (gm_c (f k) a * (f l).2.2.2 - gm_c (f l) a * (f k).2.2.2))) : wpX_orderAlong post (fc, ff, pl, co, tt, st) (nI k) (nI l) (nI a) := by
  have v : ∀ x : Nat, x < 132 → vp_in (nI x) 132 := fun x hx => vp_in_nI hx (by omega)
  refine nm_r (xw_4 k) (nm_r (xw_4 l) ?_)
  rw [nI_add, nI_add, xw_a3, xw_a3]
  refine ⟨v _ (by omega), v _ (by omega), v _ (by omega), v _ (by omega), ?_⟩
  rw [nI_clamp (by omega), nI_clamp (by omega), nI_clamp (by omega), nI_clamp (by omega), (hC l hl).2.2.2, (hC k hk).2.2.2, xw_Ca hC hk (show a < 4 by omega), xw_Ca hC hl (show a < 4 by omega),
    nu_mul, nu_mul, nu_sub]
  exact h
theorem xw_order {post : Int32 → Prop} (hC : xw_C co c f) (hc : c ≤ 33) {k l : Nat} (hk : k < c) (hl : l < c) (bk : gm_bd (f k)) (bl : gm_bd (f l))
    (h : ∀ d : Int, -4423680 ≤ d → d ≤ 4423680 → (d < 0 ↔ gm_lt (f k) (f l)) → (0 < d ↔ gm_lt (f l) (f k)) → post (nu_I d)) :
    wpX_order post (fc, ff, pl, co, tt, st) (nI k) (nI l) := by
  have o0 := gm_o_bd bk bl (a := 0) (by omega)
  have o1 := gm_o_bd bk bl (a := 1) (by omega)
  have o2 := gm_o_bd bk bl (a := 2) (by omega)
  have G1 : gm_lt (f k) (f l) ↔ (gm_c (f k) 0 * (f l).2.2.2 - gm_c (f l) 0 * (f k).2.2.2 < 0 ∨ (gm_c (f k) 0 * (f l).2.2.2 - gm_c (f l) 0 * (f k).2.2.2 = 0 ∧
      (gm_c (f k) 1 * (f l).2.2.2 - gm_c (f l) 1 * (f k).2.2.2 < 0 ∨ (gm_c (f k) 1 * (f l).2.2.2 - gm_c (f l) 1 * (f k).2.2.2 = 0 ∧
        gm_c (f k) 2 * (f l).2.2.2 - gm_c (f l) 2 * (f k).2.2.2 < 0)))) := by
    simp only [gm_lt, gm_c]; omega
  have G2 : gm_lt (f l) (f k) ↔ (0 < gm_c (f k) 0 * (f l).2.2.2 - gm_c (f l) 0 * (f k).2.2.2 ∨ (gm_c (f k) 0 * (f l).2.2.2 - gm_c (f l) 0 * (f k).2.2.2 = 0 ∧
      (0 < gm_c (f k) 1 * (f l).2.2.2 - gm_c (f l) 1 * (f k).2.2.2 ∨ (gm_c (f k) 1 * (f l).2.2.2 - gm_c (f l) 1 * (f k).2.2.2 = 0 ∧
        0 < gm_c (f k) 2 * (f l).2.2.2 - gm_c (f l) 2 * (f k).2.2.2)))) := by
    simp only [gm_lt, gm_c]; omega
  refine ⟨4, br_f (by decide) (br_t rfl ?_)⟩
  refine xw_along hC hc hk hl (a := 0) (by omega) (nm_r (nI_1 0) ?_)
  generalize gm_c (f k) 0 * (f l).2.2.2 - gm_c (f l) 0 * (f k).2.2.2 = d0 at *
  refine br_f (by decide) (br_c (fun e0 => ?_) (fun e0 => ?_))
  · have z0 := (nu_eq0 (by omega) (by omega)).mp e0
    refine xw_along hC hc hk hl (a := 1) (by omega) (nm_r (nI_1 1) ?_)
    generalize gm_c (f k) 1 * (f l).2.2.2 - gm_c (f l) 1 * (f k).2.2.2 = d1 at *
    refine br_f (by decide) (br_c (fun e1 => ?_) (fun e1 => ?_))
    · have z1 := (nu_eq0 (by omega) (by omega)).mp e1
      refine xw_along hC hc hk hl (a := 2) (by omega) (nm_r (nI_1 2) ?_)
      generalize gm_c (f k) 2 * (f l).2.2.2 - gm_c (f l) 2 * (f k).2.2.2 = d2 at *
      refine br_t (by decide) (h d2 (by omega) (by omega) ?_ ?_)
      · rw [G1]; omega
      · rw [G2]; omega
    · have z1 : d1 ≠ 0 := fun z => e1 ((nu_eq0 (by omega) (by omega)).mpr z)
      refine h d1 (by omega) (by omega) ?_ ?_
      · rw [G1]; omega
      · rw [G2]; omega
  · have z0 : d0 ≠ 0 := fun z => e0 ((nu_eq0 (by omega) (by omega)).mpr z)
    refine h d0 (by omega) (by omega) ?_ ?_
    · rw [G1]; omega
    · rw [G2]; omega

/-- two places exchanged -/
def ls_sw (f : Nat → gm_V) (k l : Nat) : Nat → gm_V := fun j => if j = k then f l else if j = l then f k else f j
def xw_si (co : Nat → Int32) (k l t : Nat) (a : Nat → Int32) : Prop :=
  ∀ i, a i = if 4 * k ≤ i ∧ i < 4 * k + t then co (4 * l + (i - 4 * k)) else if 4 * l ≤ i ∧ i < 4 * l + t then co (4 * k + (i - 4 * l)) else co i
theorem xw_si_s {co a : Nat → Int32} {k l t : Nat} (hkl : k ≠ l) (ht : t < 4) (h : xw_si co k l t a) :
    xw_si co k l (t + 1) (upd (upd a (4 * k + t) (a (4 * l + t))) (4 * l + t) (a (4 * k + t))) := by
  intro i
  have hk := h (4 * k + t)
  have hl := h (4 * l + t)
  rw [if_neg (by omega), if_neg (by omega)] at hk
  rw [if_neg (by omega), if_neg (by omega)] at hl
  by_cases e1 : i = 4 * l + t
  · subst e1
    rw [pk_us, hk, if_neg (by omega), if_pos (by omega)]
    congr 1; omega
  · rw [pk_un e1]
    by_cases e2 : i = 4 * k + t
    · subst e2
      rw [pk_us, hl, if_pos (by omega)]
      congr 1; omega
    · rw [pk_un e2, h i]
      by_cases c1 : 4 * k ≤ i ∧ i < 4 * k + t
      · rw [if_pos c1, if_pos (by omega)]
      · rw [if_neg c1, if_neg (by omega : ¬ (4 * k ≤ i ∧ i < 4 * k + (t + 1)))]
        by_cases c2 : 4 * l ≤ i ∧ i < 4 * l + t
        · rw [if_pos c2, if_pos (by omega)]
        · rw [if_neg c2, if_neg (by omega : ¬ (4 * l ≤ i ∧ i < 4 * l + (t + 1)))]
theorem xw_si_C {co a : Nat → Int32} {k l : Nat} (hk : k < c) (hl : l < c) (h : xw_si co k l 4 a) (hC : xw_C co c f) : xw_C a c (ls_sw f k l) := by
  intro j hj
  have hv : ∀ i, i < 4 → a (4 * j + i) = if j = k then co (4 * l + i) else if j = l then co (4 * k + i) else co (4 * j + i) := by
    intro i hi
    rw [h (4 * j + i)]
    by_cases e1 : j = k
    · subst e1
      rw [if_pos (by omega), if_pos rfl]
      congr 1; omega
    · rw [if_neg (by omega), if_neg e1]
      by_cases e2 : j = l
      · subst e2
        rw [if_pos (by omega), if_pos rfl]
        congr 1; omega
      · rw [if_neg (by omega), if_neg e2]
  have h0 := hv 0 (by omega)
  have h1 := hv 1 (by omega)
  have h2 := hv 2 (by omega)
  have h3 := hv 3 (by omega)
  unfold ls_sw
  by_cases e1 : j = k
  · rw [if_pos e1] at h0 h1 h2 h3 ⊢
    obtain ⟨g0, g1, g2, g3⟩ := hC l hl
    exact ⟨h0.trans g0, h1.trans g1, h2.trans g2, h3.trans g3⟩
  · rw [if_neg e1] at h0 h1 h2 h3 ⊢
    by_cases e2 : j = l
    · rw [if_pos e2] at h0 h1 h2 h3 ⊢
      obtain ⟨g0, g1, g2, g3⟩ := hC k hk
      exact ⟨h0.trans g0, h1.trans g1, h2.trans g2, h3.trans g3⟩
    · rw [if_neg e2] at h0 h1 h2 h3 ⊢
      obtain ⟨g0, g1, g2, g3⟩ := hC j hj
      exact ⟨h0.trans g0, h1.trans g1, h2.trans g2, h3.trans g3⟩
theorem xw_swap2 {post : SX → Prop} {k l : Nat} (hk : k < 33) (hl : l < 33) (hkl : k ≠ l) (h : ∀ a, xw_si co k l 4 a → post (fc, ff, pl, a, tt, st)) :
    ∀ (d t : Nat) (a : Nat → Int32), t + d = 4 → xw_si co k l t a → wX_swapCorners_2 post (nI k) (nI l) fc ff (d + 1) (nI t) pl a tt st := by
  intro d
  induction d with
  | zero =>
    intro t a ht hI
    have : t = 4 := by omega
    subst this
    exact br_t (by decide) (h a hI)
  | succ d ih =>
    intro t a ht hI
    have v : ∀ x : Nat, x < 132 → vp_in (nI x) 132 := fun x hx => vp_in_nI hx (by omega)
    refine br_f (nI_ge (b := 4) (by omega) (by decide)) ?_
    rw [xw_4, xw_4, nI_add, nI_add, nI_clamp (by omega), nI_clamp (by omega)]
    exact ⟨v _ (by omega), nm_e ⟨v _ (by omega), v _ (by omega), nm_e ⟨v _ (by omega), nm_e (nm_r (nI_1 t) (ih (t + 1) _ (by omega) (xw_si_s hkl (by omega) hI)))⟩⟩⟩
theorem xw_swap {post : SX → Prop} {k l : Nat} (hC : xw_C co c f) (hc : c ≤ 33) (hk : k < c) (hl : l < c) (hkl : k ≠ l)
    (h : ∀ co', xw_C co' c (ls_sw f k l) → post (fc, ff, pl, co', tt, st)) : wpX_swapCorners post (fc, ff, pl, co, tt, st) (nI k) (nI l) :=
  ⟨5, xw_swap2 (by omega) (by omega) hkl (fun a ha => h a (xw_si_C hk hl ha hC)) 4 0 co (by omega) (fun i => by rw [if_neg (by omega), if_neg (by omega)])⟩

theorem ls_sw_ins {f : Nat → gm_V} {p : gm_V} {k : Nat} (j : Nat) : ls_sw (ls_ins f p (k + 1)) k (k + 1) j = ls_ins f p k j := by
  unfold ls_sw
  by_cases e1 : j = k
  · subst e1
    rw [if_pos rfl, ls_ins_eq, ls_ins_eq]
  · rw [if_neg e1]
    by_cases e2 : j = k + 1
    · subst e2
      rw [if_pos rfl, ls_ins_lo (by omega)]
      unfold ls_ins
      rw [if_neg (by omega), if_neg (by omega)]
      congr 1
    · rw [if_neg e2]
      unfold ls_ins
      by_cases e3 : j < k
      · rw [if_pos (by omega), if_pos e3]
      · rw [if_neg (by omega), if_neg (by omega), if_neg e3, if_neg e1]

variable {p : gm_V}
theorem xw_keep44 {post : SX → Prop} (hc : c ≤ 32) (hb : ∀ i, i < c → gm_bd (f i)) (bp : gm_bd p) (hw : ∀ i, i < c → 0 < (f i).2.2.2) (pw : 0 < p.2.2.2)
    (hs : ∀ i j, i < j → j < c → gm_lt (f i) (f j)) (hn : ∀ i, i < c → ¬ gm_pr (f i) p)
    (h : ∀ (k : Nat) (co' : Nat → Int32), k ≤ c → (∀ i, i < k → gm_lt (f i) p) → (∀ i, k ≤ i → i < c → gm_lt p (f i)) → xw_C co' (c + 1) (ls_ins f p k) →
      post (fc, nI (c + 1), pl, co', tt, st)) :
    ∀ (k : Nat) (co : Nat → Int32), k ≤ c → (∀ i, k ≤ i → i < c → gm_lt p (f i)) → xw_C co (c + 1) (ls_ins f p k) → wX_keepPoint_44 post (k + 1) (nI k) fc (nI c) pl co tt st := by
  intro k
  induction k with
  | zero =>
    intro co hk hi hC
    exact br_t (nI_le (a := 0) (b := 0) (by omega) (by omega)) (nm_r (nI_1 c) (h 0 co hk (fun i hi => by omega) hi hC))
  | succ k ih =>
    intro co hk hi hC
    have e1 : nI (k + 1) - 1 = nI k := nI_pred k
    refine br_f (nI_nle (by omega) (by omega)) ?_
    rw [e1]
    have f1 : ls_ins f p (k + 1) k = f k := ls_ins_lo (by omega)
    have f2 : ls_ins f p (k + 1) (k + 1) = p := ls_ins_eq
    refine xw_order hC (by omega) (by omega) (by omega) (by rw [f1]; exact hb k (by omega)) (by rw [f2]; exact bp) (fun d d1 d2 hlt hgt => ?_)
    rw [f1, f2] at hlt hgt
    refine br_c (fun g => ?_) (fun g => ?_)
    · have g' := (nu_le0 (by omega) (by omega)).mp g
      have l1 : gm_lt (f k) p := by
        apply Classical.byContradiction
        intro hl
        exact hn k (by omega) (gm_tri hl (fun hg => by have := hgt.mpr hg; omega))
      refine nm_r (nI_1 c) (h (k + 1) co hk (fun i hik => ?_) hi hC)
      by_cases e : i = k
      · subst e; exact l1
      · exact gm_lt_trans (hw i (by omega)) (hw k (by omega)) pw (hs i k (by omega) (by omega)) l1
    · have g' : 0 < d := by
        rcases Int.lt_or_le 0 d with z | z
        · exact z
        · exact absurd ((nu_le0 (by omega) (by omega)).mpr z) g
      refine xw_swap hC (by omega) (by omega) (by omega) (by omega) (fun co' hC' => ?_)
      refine nm_r (pk_m1 k) (ih co' (by omega) (fun i h1 h2 => ?_) (xw_C_cg hC' (fun j _ => ls_sw_ins j)))
      by_cases e : i = k
      · subst e; exact hgt.mp g'
      · exact hi i (by omega) h2
theorem xw_keep12 {post : SX → Prop} (hC : xw_C co (c + 1) (ls_ins f p c)) (hc : c < 32) (hb : ∀ i, i < c → gm_bd (f i)) (bp : gm_bd p) (hw : ∀ i, i < c → 0 < (f i).2.2.2) (pw : 0 < p.2.2.2)
    (hs : ∀ i j, i < j → j < c → gm_lt (f i) (f j))
    (h0 : (∃ i, i < c ∧ gm_pr (f i) p) → post (fc, nI c, pl, co, tt, st))
    (h : ∀ (k : Nat) (co' : Nat → Int32), k ≤ c → (∀ i, i < k → gm_lt (f i) p) → (∀ i, k ≤ i → i < c → gm_lt p (f i)) → xw_C co' (c + 1) (ls_ins f p k) →
      post (fc, nI (c + 1), pl, co', tt, st)) :
    ∀ (d k : Nat), k + d = c → (∀ i, i < k → ¬ gm_pr (f i) p) → wX_keepPoint_12 post fc (nI c) pl co tt st (d + 1) (nI k) := by
  intro d
  induction d with
  | zero =>
    intro k hk hn
    have : k = c := by omega
    subst this
    exact br_t (nI_le (Nat.le_refl _) (by omega)) ⟨k + 1, xw_keep44 (by omega) hb bp hw pw hs hn h k co (by omega) (fun i h1 h2 => by omega) hC⟩
  | succ d ih =>
    intro k hk hn
    have f1 : ls_ins f p c k = f k := ls_ins_lo (by omega)
    have f2 : ls_ins f p c c = p := ls_ins_eq
    refine br_f (nI_ge (by omega) (by omega)) ?_
    refine xw_order hC (by omega) (by omega) (by omega) (by rw [f1]; exact hb k (by omega)) (by rw [f2]; exact bp) (fun d d1 d2 hlt hgt => ?_)
    rw [f1, f2] at hlt hgt
    refine br_c (fun g => ?_) (fun g => ?_)
    · have g' := (nu_eq0 (by omega) (by omega)).mp g
      exact h0 ⟨k, by omega, gm_tri (fun z => by have := hlt.mpr z; omega) (fun z => by have := hgt.mpr z; omega)⟩
    · have g' : d ≠ 0 := fun z => g ((nu_eq0 (by omega) (by omega)).mpr z)
      refine nm_r (nI_1 k) (ih (k + 1) (by omega) (fun i hi => ?_))
      by_cases e : i = k
      · subst e
        intro hp
        have : gm_lt (f i) p ∨ gm_lt p (f i) := by
          rcases Int.lt_or_gt_of_ne g' with z | z
          · exact .inl (hlt.mp z)
          · exact .inr (hgt.mp z)
        rcases this with z | z
        · exact gm_lt_npr z hp
        · exact gm_lt_npr z (gm_pr_symm hp)
      · exact hn i (by omega)
theorem xw_keep {post : SX → Prop} (hC : xw_C co (c + 1) (ls_ins f p c)) (hc : c ≤ 32) (hb : ∀ i, i < c → gm_bd (f i)) (bp : gm_bd p) (hw : ∀ i, i < c → 0 < (f i).2.2.2) (pw : 0 < p.2.2.2)
    (hs : ∀ i j, i < j → j < c → gm_lt (f i) (f j))
    (hfull : c = 32 → post (fc, nI c, pl, co, tt, st))
    (h0 : (∃ i, i < c ∧ gm_pr (f i) p) → post (fc, nI c, pl, co, tt, st))
    (h : c < 32 → ∀ (k : Nat) (co' : Nat → Int32), k ≤ c → (∀ i, i < k → gm_lt (f i) p) → (∀ i, k ≤ i → i < c → gm_lt p (f i)) → xw_C co' (c + 1) (ls_ins f p k) →
      post (fc, nI (c + 1), pl, co', tt, st)) : wpX_keepPoint post (fc, nI c, pl, co, tt, st) := by
  by_cases e : c < 32
  · exact br_t (nI_lt (b := 32) e (by decide)) ⟨c + 1, xw_keep12 hC e hb bp hw pw hs h0 (h e) c 0 (by omega) (fun i hi => by omega)⟩
  · exact br_f (nI_nlt (b := 32) (by omega) (by omega)) (hfull (by omega))
end
