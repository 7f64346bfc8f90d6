/-! The geometry: planes and points as four whole numbers, a point's last one its bottom -/
section
abbrev gm_V : Type := Int × Int × Int × Int
def gm_ev (a p : gm_V) : Int := a.1 * p.1 + a.2.1 * p.2.1 + a.2.2.1 * p.2.2.1 - a.2.2.2 * p.2.2.2
def gm_lc (s : Int) (p : gm_V) (t : Int) (q : gm_V) : gm_V :=
  (s * p.1 + t * q.1, s * p.2.1 + t * q.2.1, s * p.2.2.1 + t * q.2.2.1, s * p.2.2.2 + t * q.2.2.2)
def gm_dt (a b c : gm_V) : Int :=
  a.1 * (b.2.1 * c.2.2.1 - b.2.2.1 * c.2.1) - a.2.1 * (b.1 * c.2.2.1 - b.2.2.1 * c.1) + a.2.2.1 * (b.1 * c.2.1 - b.2.1 * c.1)
def gm_cr (a b : gm_V) : gm_V :=
  (a.2.1 * b.2.2.1 - a.2.2.1 * b.2.1, a.2.2.1 * b.1 - a.1 * b.2.2.1, a.1 * b.2.1 - a.2.1 * b.1, 0)
def gm_pr (p q : gm_V) : Prop :=
  p.1 * q.2.2.2 = q.1 * p.2.2.2 ∧ p.2.1 * q.2.2.2 = q.2.1 * p.2.2.2 ∧ p.2.2.1 * q.2.2.2 = q.2.2.1 * p.2.2.2

theorem gm_ev_lc (a : gm_V) (s : Int) (p : gm_V) (t : Int) (q : gm_V) :
    gm_ev a (gm_lc s p t q) = s * gm_ev a p + t * gm_ev a q := by
  simp only [gm_ev, gm_lc]; grind
theorem gm_w_lc (s : Int) (p : gm_V) (t : Int) (q : gm_V) : (gm_lc s p t q).2.2.2 = s * p.2.2.2 + t * q.2.2.2 := rfl

theorem gm_cramer {a b c d : gm_V} (hd : gm_dt a b c ≠ 0) (hw : d.2.2.2 = 0) (ha : gm_ev a d = 0) (hb : gm_ev b d = 0)
    (hc : gm_ev c d = 0) : d = (0, 0, 0, 0) := by
  obtain ⟨a1, a2, a3, a4⟩ := a
  obtain ⟨b1, b2, b3, b4⟩ := b
  obtain ⟨c1, c2, c3, c4⟩ := c
  obtain ⟨x, y, z, w⟩ := d
  simp only [gm_ev, gm_dt] at *
  subst hw
  have hx : (a1 * (b2 * c3 - b3 * c2) - a2 * (b1 * c3 - b3 * c1) + a3 * (b1 * c2 - b2 * c1)) * x = 0 := by grind
  have hy : (a1 * (b2 * c3 - b3 * c2) - a2 * (b1 * c3 - b3 * c1) + a3 * (b1 * c2 - b2 * c1)) * y = 0 := by grind
  have hz : (a1 * (b2 * c3 - b3 * c2) - a2 * (b1 * c3 - b3 * c1) + a3 * (b1 * c2 - b2 * c1)) * z = 0 := by grind
  have e1 := (Int.mul_eq_zero.mp hx).resolve_left hd
  have e2 := (Int.mul_eq_zero.mp hy).resolve_left hd
  have e3 := (Int.mul_eq_zero.mp hz).resolve_left hd
  rw [e1, e2, e3]

theorem gm_pr_ev {p q : gm_V} (h : gm_pr p q) (f : gm_V) : gm_ev f p * q.2.2.2 = gm_ev f q * p.2.2.2 := by
  obtain ⟨h1, h2, h3⟩ := h
  simp only [gm_ev]; grind

theorem gm_pr_symm {p q : gm_V} (h : gm_pr p q) : gm_pr q p := ⟨h.1.symm, h.2.1.symm, h.2.2.symm⟩

theorem gm_pr_of {p q : gm_V} (h : gm_lc q.2.2.2 p (-p.2.2.2) q = (0, 0, 0, 0)) : gm_pr p q := by
  simp only [gm_lc, Prod.mk.injEq] at h
  obtain ⟨h1, h2, h3, _⟩ := h
  refine ⟨?_, ?_, ?_⟩ <;> grind

theorem gm_uniq {a b c p q : gm_V} (hd : gm_dt a b c ≠ 0) (ha : gm_ev a p = 0) (hb : gm_ev b p = 0) (hc : gm_ev c p = 0)
    (ha' : gm_ev a q = 0) (hb' : gm_ev b q = 0) (hc' : gm_ev c q = 0) : gm_pr p q := by
  apply gm_pr_of
  apply gm_cramer hd
  · rw [gm_w_lc]; grind
  · rw [gm_ev_lc, ha, ha']; simp
  · rw [gm_ev_lc, hb, hb']; simp
  · rw [gm_ev_lc, hc, hc']; simp

theorem gm_mul_cancel {s a b : Int} (hs : 0 < s) (h : s * a ≤ s * b) : a ≤ b := Int.le_of_mul_le_mul_left h hs
theorem gm_mul_cancel_lt {s a b : Int} (hs : 0 < s) (h : s * a < s * b) : a < b := by
  rcases Int.lt_or_le a b with h1 | h1
  · exact h1
  · have := Int.mul_le_mul_of_nonneg_left h1 (Int.le_of_lt hs)
    omega
theorem gm_np {a b : Int} (ha : 0 ≤ a) (hb : b ≤ 0) : a * b ≤ 0 := Int.mul_nonpos_of_nonneg_of_nonpos ha hb
theorem gm_nn {a b : Int} (ha : 0 ≤ a) (hb : 0 ≤ b) : 0 ≤ a * b := Int.mul_nonneg ha hb
theorem gm_pp {a b : Int} (ha : 0 < a) (hb : 0 < b) : 0 < a * b := Int.mul_pos ha hb
theorem gm_pn {a b : Int} (ha : 0 < a) (hb : b < 0) : a * b < 0 := Int.mul_neg_of_pos_of_neg ha hb

theorem gm_min (r s : Nat → Int) (C : Nat → Prop) : ∀ n : Nat, (∀ i, i < n → C i → 0 < s i) → (∃ i, i < n ∧ C i) →
    ∃ i, i < n ∧ C i ∧ ∀ j, j < n → C j → r i * s j ≤ r j * s i := by
  intro n
  induction n with
  | zero => intro _ h; obtain ⟨i, hi, _⟩ := h; omega
  | succ n ih =>
    intro hs h
    by_cases hex : ∃ i, i < n ∧ C i
    · obtain ⟨i, hi, ci, hm⟩ := ih (fun i hi => hs i (by omega)) hex
      by_cases hn : C n
      · by_cases hc : r i * s n ≤ r n * s i
        · refine ⟨i, by omega, ci, fun j hj cj => ?_⟩
          by_cases e : j = n
          · subst e; exact hc
          · exact hm j (by omega) cj
        · refine ⟨n, by omega, hn, fun j hj cj => ?_⟩
          by_cases e : j = n
          · subst e; exact Int.le_refl _
          · have h1 := hm j (by omega) cj
            have pi := hs i (by omega) ci
            have pn := hs n (by omega) hn
            have pj := hs j (by omega) cj
            have h2 : r n * s i ≤ r i * s n := by omega
            have h3 := Int.mul_le_mul_of_nonneg_left h1 (Int.le_of_lt pn)
            have h4 := Int.mul_le_mul_of_nonneg_right h2 (Int.le_of_lt pj)
            apply gm_mul_cancel pi
            have e1 : s i * (r n * s j) = r n * s i * s j := by grind
            have e2 : s i * (r j * s n) = s n * (r j * s i) := by grind
            have e3 : r i * s n * s j = s n * (r i * s j) := by grind
            rw [e1, e2]
            rw [e3] at h4
            exact Int.le_trans h4 h3
      · refine ⟨i, by omega, ci, fun j hj cj => ?_⟩
        by_cases e : j = n
        · subst e; exact absurd cj hn
        · exact hm j (by omega) cj
    · obtain ⟨i, hi, ci⟩ := h
      have e : i = n := by
        by_cases e : i = n
        · exact e
        · exact absurd ⟨i, by omega, ci⟩ hex
      subst e
      refine ⟨i, hi, ci, fun j hj cj => ?_⟩
      by_cases e : j = i
      · subst e; exact Int.le_refl _
      · exact absurd ⟨j, by omega, cj⟩ hex

noncomputable def gm_cn (P : Nat → Prop) : Nat → Nat
  | 0 => 0
  | n + 1 => gm_cn P n + @ite Nat (P n) (Classical.propDecidable (P n)) 1 0
theorem gm_cn_t {P : Nat → Prop} {n : Nat} (h : P n) : gm_cn P (n + 1) = gm_cn P n + 1 := by
  rw [gm_cn]; simp [h]
theorem gm_cn_f {P : Nat → Prop} {n : Nat} (h : ¬ P n) : gm_cn P (n + 1) = gm_cn P n := by
  rw [gm_cn]; simp [h]
theorem gm_cn_le {P P' : Nat → Prop} : ∀ n : Nat, (∀ i, i < n → P i → P' i) → gm_cn P n ≤ gm_cn P' n := by
  intro n
  induction n with
  | zero => intro _; exact Nat.le_refl _
  | succ n ih =>
    intro h
    have h1 := ih (fun i hi => h i (by omega))
    by_cases a : P n
    · rw [gm_cn_t a, gm_cn_t (h n (by omega) a)]; omega
    · rw [gm_cn_f a]
      by_cases b : P' n
      · rw [gm_cn_t b]; omega
      · rw [gm_cn_f b]; exact h1
theorem gm_cn_lt {P P' : Nat → Prop} : ∀ n : Nat, (∀ i, i < n → P i → P' i) → (∃ i, i < n ∧ P' i ∧ ¬ P i) → gm_cn P n < gm_cn P' n := by
  intro n
  induction n with
  | zero => intro _ h; obtain ⟨i, hi, _⟩ := h; omega
  | succ n ih =>
    intro h hx
    obtain ⟨i, hi, h1, h2⟩ := hx
    by_cases e : i = n
    · subst e
      have := gm_cn_le i (fun j hj => h j (by omega))
      rw [gm_cn_f h2, gm_cn_t h1]; omega
    · have h3 := ih (fun j hj => h j (by omega)) ⟨i, by omega, h1, h2⟩
      by_cases a : P n
      · rw [gm_cn_t a, gm_cn_t (h n (by omega) a)]; omega
      · rw [gm_cn_f a]
        by_cases b : P' n
        · rw [gm_cn_t b]; omega
        · rw [gm_cn_f b]; exact h3

def gm_In (Q : Nat → gm_V) (ac : Nat → Prop) (p : gm_V) : Prop := ∀ i, ac i → gm_ev (Q i) p ≤ 0
def gm_Bd (Q : Nat → gm_V) (ac : Nat → Prop) : Prop := ∀ d : gm_V, d.2.2.2 = 0 → gm_In Q ac d → d = (0, 0, 0, 0)
def gm_Vx (Q : Nat → gm_V) (ac : Nat → Prop) (p : gm_V) : Prop :=
  0 < p.2.2.2 ∧ gm_In Q ac p ∧ ∃ i j k, ac i ∧ ac j ∧ ac k ∧ gm_dt (Q i) (Q j) (Q k) ≠ 0 ∧
    gm_ev (Q i) p = 0 ∧ gm_ev (Q j) p = 0 ∧ gm_ev (Q k) p = 0

theorem gm_move {Q : Nat → gm_V} {ac : Nat → Prop} {n : Nat} (hac : ∀ i, ac i → i < n) (hB : gm_Bd Q ac) {p d : gm_V}
    (hp : gm_In Q ac p) (hw : d.2.2.2 = 0) (hd : d ≠ (0, 0, 0, 0)) :
    ∃ i, ac i ∧ 0 < gm_ev (Q i) d ∧ gm_In Q ac (gm_lc (gm_ev (Q i) d) p (-gm_ev (Q i) p) d) := by
  have hex : ∃ i, i < n ∧ (ac i ∧ 0 < gm_ev (Q i) d) := by
    apply Classical.byContradiction
    intro hn
    apply hd
    apply hB d hw
    intro i hi
    rcases Int.lt_or_le 0 (gm_ev (Q i) d) with h1 | h1
    · exact absurd ⟨i, hac i hi, hi, h1⟩ hn
    · exact h1
  obtain ⟨i, _, ⟨hi, hpos⟩, hm⟩ := gm_min (fun i => -gm_ev (Q i) p) (fun i => gm_ev (Q i) d) _ n (fun i _ h => h.2) hex
  refine ⟨i, hi, hpos, fun j hj => ?_⟩
  rw [gm_ev_lc]
  have hpi := hp i hi
  have hpj := hp j hj
  rcases Int.lt_or_le 0 (gm_ev (Q j) d) with h1 | h1
  · have h2 := hm j (hac j hj) ⟨hj, h1⟩
    have e : gm_ev (Q i) d * gm_ev (Q j) p = -(-gm_ev (Q j) p * gm_ev (Q i) d) := by grind
    rw [e]; omega
  · have h2 := gm_np (Int.le_of_lt hpos) hpj
    have h3 := gm_np (a := -gm_ev (Q i) p) (by omega) h1
    omega

theorem gm_perp (a : gm_V) : ∃ e : gm_V, e.2.2.2 = 0 ∧ e ≠ (0, 0, 0, 0) ∧ gm_ev a e = 0 ∧
    ∀ b : gm_V, gm_cr a b = (0, 0, 0, 0) → (a.1 = 0 ∧ a.2.1 = 0 ∧ a.2.2.1 = 0 → b.1 = 0 ∧ b.2.1 = 0 ∧ b.2.2.1 = 0) → gm_ev b e = 0 := by
  obtain ⟨a1, a2, a3, a4⟩ := a
  by_cases h : a1 = 0 ∧ a2 = 0
  · obtain ⟨h1, h2⟩ := h
    subst h1 h2
    refine ⟨(1, 0, 0, 0), rfl, by simp, by simp [gm_ev], fun b hb hz => ?_⟩
    obtain ⟨b1, b2, b3, b4⟩ := b
    simp only [gm_cr, Prod.mk.injEq] at hb
    simp only [gm_ev]
    by_cases h3 : a3 = 0
    · have := (hz ⟨rfl, rfl, h3⟩).1
      dsimp only at this
      subst this; simp
    · have h4 : a3 * b1 = 0 := by grind
      have h5 := (Int.mul_eq_zero.mp h4).resolve_left h3
      subst h5; simp
  · refine ⟨(a2, -a1, 0, 0), rfl, ?_, ?_, fun b hb hz => ?_⟩
    · intro e
      simp only [Prod.mk.injEq] at e
      apply h
      omega
    · simp only [gm_ev]; grind
    · obtain ⟨b1, b2, b3, b4⟩ := b
      simp only [gm_cr, Prod.mk.injEq] at hb
      simp only [gm_ev]; grind

theorem gm_ev_cr (a b c : gm_V) : gm_ev c (gm_cr a b) = gm_dt c a b := by
  simp only [gm_ev, gm_cr, gm_dt]; grind

theorem gm_ker (Q : Nat → gm_V) (T : Nat → Prop) (h : ∀ i j k, T i → T j → T k → gm_dt (Q i) (Q j) (Q k) = 0) :
    ∃ d : gm_V, d.2.2.2 = 0 ∧ d ≠ (0, 0, 0, 0) ∧ ∀ i, T i → gm_ev (Q i) d = 0 := by
  by_cases hc : ∃ i j, T i ∧ T j ∧ gm_cr (Q i) (Q j) ≠ (0, 0, 0, 0)
  · obtain ⟨i, j, hi, hj, hn⟩ := hc
    exact ⟨gm_cr (Q i) (Q j), rfl, hn, fun k hk => by rw [gm_ev_cr]; exact h k i j hk hi hj⟩
  · have hc' : ∀ i j, T i → T j → gm_cr (Q i) (Q j) = (0, 0, 0, 0) := fun i j hi hj =>
      Classical.byContradiction fun hn => hc ⟨i, j, hi, hj, hn⟩
    by_cases hz : ∃ i, T i ∧ ¬ ((Q i).1 = 0 ∧ (Q i).2.1 = 0 ∧ (Q i).2.2.1 = 0)
    · obtain ⟨i, hi, hni⟩ := hz
      obtain ⟨e, h1, h2, _, h4⟩ := gm_perp (Q i)
      exact ⟨e, h1, h2, fun j hj => h4 (Q j) (hc' i j hi hj) (fun hh => absurd hh hni)⟩
    · refine ⟨(1, 0, 0, 0), rfl, by simp, fun j hj => ?_⟩
      have : (Q j).1 = 0 ∧ (Q j).2.1 = 0 ∧ (Q j).2.2.1 = 0 := Classical.byContradiction fun hn => hz ⟨j, hj, hn⟩
      simp [gm_ev, this.1]

theorem gm_neg_ev (a d : gm_V) : gm_ev a (gm_lc (-1) d 0 d) = -gm_ev a d := by rw [gm_ev_lc]; omega
theorem gm_neg_nz {d : gm_V} (h : d ≠ (0, 0, 0, 0)) : gm_lc (-1) d 0 d ≠ (0, 0, 0, 0) := by
  intro e
  apply h
  obtain ⟨x, y, z, w⟩ := d
  simp only [gm_lc, Prod.mk.injEq] at e ⊢
  omega
theorem gm_neg_w {d : gm_V} (h : d.2.2.2 = 0) : (gm_lc (-1) d 0 d).2.2.2 = 0 := by rw [gm_w_lc, h]; rfl

theorem gm_ker_f (Q : Nat → gm_V) (T : Nat → Prop) (f : gm_V) (h : ∀ i j k, T i → T j → T k → gm_dt (Q i) (Q j) (Q k) = 0) :
    ∃ d : gm_V, d.2.2.2 = 0 ∧ d ≠ (0, 0, 0, 0) ∧ (∀ i, T i → gm_ev (Q i) d = 0) ∧ 0 ≤ gm_ev f d := by
  obtain ⟨d, h1, h2, h3⟩ := gm_ker Q T h
  rcases Int.lt_or_le (gm_ev f d) 0 with hn | hp
  · refine ⟨gm_lc (-1) d 0 d, gm_neg_w h1, gm_neg_nz h2, fun i hi => ?_, ?_⟩
    · rw [gm_neg_ev, h3 i hi]; rfl
    · rw [gm_neg_ev]; omega
  · exact ⟨d, h1, h2, h3, hp⟩

/-- from a point of the body to a corner that lies in all its planes and is at least as far along f -/
theorem gm_lp {Q : Nat → gm_V} {ac : Nat → Prop} {n : Nat} (hac : ∀ i, ac i → i < n) (hB : gm_Bd Q ac) (f : gm_V) :
    ∀ (m : Nat) (p : gm_V), gm_In Q ac p → 0 < p.2.2.2 → gm_cn (fun i => ac i ∧ gm_ev (Q i) p ≠ 0) n ≤ m →
    ∃ u, gm_Vx Q ac u ∧ (∀ i, ac i → gm_ev (Q i) p = 0 → gm_ev (Q i) u = 0) ∧ gm_ev f p * u.2.2.2 ≤ gm_ev f u * p.2.2.2 := by
  intro m
  induction m with
  | zero =>
    intro p hp hw hm
    by_cases h3 : ∃ i j k, ac i ∧ ac j ∧ ac k ∧ gm_dt (Q i) (Q j) (Q k) ≠ 0 ∧ gm_ev (Q i) p = 0 ∧ gm_ev (Q j) p = 0 ∧ gm_ev (Q k) p = 0
    · exact ⟨p, ⟨hw, hp, h3⟩, fun _ _ h => h, Int.le_refl _⟩
    · exfalso
      obtain ⟨d, hd0, hdz, hk, hf⟩ := gm_ker_f Q (fun i => ac i ∧ gm_ev (Q i) p = 0) f (fun i j k hi hj hk =>
        Classical.byContradiction fun hn => h3 ⟨i, j, k, hi.1, hj.1, hk.1, hn, hi.2, hj.2, hk.2⟩)
      obtain ⟨i, hi, hpos, _⟩ := gm_move hac hB hp hd0 hdz
      have hne : gm_ev (Q i) p ≠ 0 := by
        intro e
        have := hk i ⟨hi, e⟩
        omega
      have := gm_cn_lt (P := fun _ => False) (P' := fun i => ac i ∧ gm_ev (Q i) p ≠ 0) n (fun _ _ h => h.elim) ⟨i, hac i hi, ⟨hi, hne⟩, fun h => h⟩
      omega
  | succ m ih =>
    intro p hp hw hm
    by_cases h3 : ∃ i j k, ac i ∧ ac j ∧ ac k ∧ gm_dt (Q i) (Q j) (Q k) ≠ 0 ∧ gm_ev (Q i) p = 0 ∧ gm_ev (Q j) p = 0 ∧ gm_ev (Q k) p = 0
    · exact ⟨p, ⟨hw, hp, h3⟩, fun _ _ h => h, Int.le_refl _⟩
    · obtain ⟨d, hd0, hdz, hk, hf⟩ := gm_ker_f Q (fun i => ac i ∧ gm_ev (Q i) p = 0) f (fun i j k hi hj hk =>
        Classical.byContradiction fun hn => h3 ⟨i, j, k, hi.1, hj.1, hk.1, hn, hi.2, hj.2, hk.2⟩)
      obtain ⟨i, hi, hpos, hin⟩ := gm_move hac hB hp hd0 hdz
      have hne : gm_ev (Q i) p ≠ 0 := by
        intro e
        have := hk i ⟨hi, e⟩
        omega
      have hr : 0 ≤ -gm_ev (Q i) p := by have := hp i hi; omega
      have hw' : (gm_lc (gm_ev (Q i) d) p (-gm_ev (Q i) p) d).2.2.2 = gm_ev (Q i) d * p.2.2.2 := by
        rw [gm_w_lc, hd0]; simp
      have hkeep : ∀ j, ac j → gm_ev (Q j) p = 0 → gm_ev (Q j) (gm_lc (gm_ev (Q i) d) p (-gm_ev (Q i) p) d) = 0 := by
        intro j hj e
        rw [gm_ev_lc, e, hk j ⟨hj, e⟩]; simp
      have hti : gm_ev (Q i) (gm_lc (gm_ev (Q i) d) p (-gm_ev (Q i) p) d) = 0 := by
        rw [gm_ev_lc]; grind
      have hlt := gm_cn_lt (P := fun j => ac j ∧ gm_ev (Q j) (gm_lc (gm_ev (Q i) d) p (-gm_ev (Q i) p) d) ≠ 0)
        (P' := fun j => ac j ∧ gm_ev (Q j) p ≠ 0) n
        (fun j _ h => ⟨h.1, fun e => h.2 (hkeep j h.1 e)⟩) ⟨i, hac i hi, ⟨hi, hne⟩, fun h => h.2 hti⟩
      obtain ⟨u, hu, ht, hle⟩ := ih _ hin (by rw [hw']; exact gm_pp hpos hw) (by omega)
      refine ⟨u, hu, fun j hj e => ht j hj (hkeep j hj e), ?_⟩
      rw [hw', gm_ev_lc] at hle
      apply gm_mul_cancel hpos
      have h5 : 0 ≤ -gm_ev (Q i) p * gm_ev f d * u.2.2.2 := gm_nn (gm_nn hr hf) (Int.le_of_lt hu.1)
      have e1 : (gm_ev (Q i) d * gm_ev f p + -gm_ev (Q i) p * gm_ev f d) * u.2.2.2
        = gm_ev (Q i) d * (gm_ev f p * u.2.2.2) + -gm_ev (Q i) p * gm_ev f d * u.2.2.2 := by grind
      have e2 : gm_ev f u * (gm_ev (Q i) d * p.2.2.2) = gm_ev (Q i) d * (gm_ev f u * p.2.2.2) := by grind
      rw [e1, e2] at hle
      omega

theorem gm_lp' {Q : Nat → gm_V} {ac : Nat → Prop} {n : Nat} (hac : ∀ i, ac i → i < n) (hB : gm_Bd Q ac) (f : gm_V)
    (p : gm_V) (hp : gm_In Q ac p) (hw : 0 < p.2.2.2) :
    ∃ u, gm_Vx Q ac u ∧ (∀ i, ac i → gm_ev (Q i) p = 0 → gm_ev (Q i) u = 0) ∧ gm_ev f p * u.2.2.2 ≤ gm_ev f u * p.2.2.2 :=
  gm_lp hac hB f _ p hp hw (Nat.le_refl _)
end
