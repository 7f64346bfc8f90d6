/-! The walk around the shadow: what it has met, and how many there are -/
section
theorem sh_cn_rm {P : Nat → Prop} {a : Nat} (ha : P a) : ∀ c : Nat, a < c → gm_cn P c = gm_cn (fun i => P i ∧ i ≠ a) c + 1 := by
  intro c
  induction c with
  | zero => intro h; omega
  | succ c ih =>
    intro h
    by_cases e : a = c
    · subst e
      rw [gm_cn_t ha, gm_cn_f (P := fun i => P i ∧ i ≠ a) (fun h => h.2 rfl)]
      have h1 := gm_cn_le (P := P) (P' := fun i => P i ∧ i ≠ a) a (fun i hi hp => ⟨hp, by omega⟩)
      have h2 := gm_cn_le (P := fun i => P i ∧ i ≠ a) (P' := P) a (fun i hi hp => hp.1)
      omega
    · have := ih (by omega)
      by_cases p : P c
      · rw [gm_cn_t p, gm_cn_t (P := fun i => P i ∧ i ≠ a) ⟨p, fun h => e h.symm⟩]; omega
      · rw [gm_cn_f p, gm_cn_f (P := fun i => P i ∧ i ≠ a) (fun h => p h.1)]; omega
theorem sh_cn_0 {P : Nat → Prop} : ∀ c : Nat, (∀ i, i < c → ¬ P i) → gm_cn P c = 0 := by
  intro c
  induction c with
  | zero => intro _; rfl
  | succ c ih => intro h; rw [gm_cn_f (h c (by omega))]; exact ih (fun i hi => h i (by omega))
theorem sh_cn_bij (c : Nat) (g : Nat → Nat) : ∀ (m : Nat) (P : Nat → Prop), (∀ t, t < m → g t < c ∧ P (g t)) → (∀ s t, s < t → t < m → g s ≠ g t) →
    (∀ k, k < c → P k → ∃ t, t < m ∧ g t = k) → gm_cn P c = m := by
  intro m
  induction m with
  | zero => intro P _ _ h; exact sh_cn_0 c (fun i hi hp => by obtain ⟨t, ht, _⟩ := h i hi hp; omega)
  | succ m ih =>
    intro P h1 h2 h3
    rw [sh_cn_rm (h1 m (by omega)).2 c (h1 m (by omega)).1]
    rw [ih (fun i => P i ∧ i ≠ g m) (fun t ht => ⟨(h1 t (by omega)).1, (h1 t (by omega)).2, h2 t m ht (by omega)⟩) (fun s t a b => h2 s t a (by omega)) (fun k hk hp => by
      obtain ⟨t, ht, e⟩ := h3 k hk hp.1
      refine ⟨t, ?_, e⟩
      by_cases e2 : t = m
      · subst e2; exact absurd e.symm hp.2
      · omega)]
theorem sh_surj {c : Nat} {P : Nat → Nat} (h1 : ∀ t, t < c → P t < c) (h2 : ∀ s t, s < t → t < c → P s ≠ P t) {k : Nat} (hk : k < c) : ∃ t, t < c ∧ P t = k := by
  apply Classical.byContradiction
  intro hn
  have hne : ∀ t, t < c → P t ≠ k := fun t ht e => hn ⟨t, ht, e⟩
  have := gm_pigeon (c - 1) c (fun t => if k < P t then P t - 1 else P t) (fun i hi => by
    have a := h1 i hi
    have b := hne i hi
    split <;> omega) (fun i j hij hj => by
    have a := h2 i j hij hj
    have b := hne i (by omega)
    have d := hne j hj
    split <;> split <;> omega)
  omega

variable {x y w : Nat → Int} {c : Nat}
theorem sh_col {p q r : Nat} (hw : ∀ j, j < c → 0 < w j) (hp : p < c) (hq : q < c) (hr : r < c) (ep : sh_E x y w c p) (eq : sh_E x y w c q) (er : sh_E x y w c r)
    (npq : ¬ sh_sm x y w q p) (npr : ¬ sh_sm x y w r p) (nqr : ¬ sh_sm x y w q r) : sh_D x y w p q r ≠ 0 := by
  intro h0
  obtain ⟨a, b, h⟩ := ep
  have hhq := h q hq npq
  have hhr := h r hr npr
  have wp := hw p hp
  have wq := hw q hq
  have wr := hw r hr
  have hc : sh_C x y w p q r = 0 := by rw [sh_CD, h0]; simp
  obtain ⟨r1, r2⟩ := sh_ray (a := a) (b := b) hc
  generalize sh_h x y w a b p q = H at *
  generalize sh_h x y w a b p r = K at *
  rcases Int.lt_trichotomy (H * w r) (K * w q) with g | g | g
  · refine sh_mean (A := 0) (B := K * w q - H * w r) (C := H * w p) (s := p) (p := p) (q := r) (r := q) eq hp hp hr
      (fun h => npq (sh_sm_symm h)) (fun h => npq (sh_sm_symm h)) (fun h => nqr (sh_sm_symm h)) (by omega) (by omega) (gm_pp hhq wp) (K * w p) ?_ ?_ ?_
    · simp only [sh_u] at r1; grind
    · simp only [sh_u] at r2; grind
    · grind
  · apply nqr
    constructor
    · have n : H * w p ≠ 0 := by have := gm_pp hhq wp; omega
      apply Int.eq_of_mul_eq_mul_left n
      simp only [sh_u] at r1; grind
    · have n : H * w p ≠ 0 := by have := gm_pp hhq wp; omega
      apply Int.eq_of_mul_eq_mul_left n
      simp only [sh_u] at r2; grind
  · refine sh_mean (A := 0) (B := H * w r - K * w q) (C := K * w p) (s := p) (p := p) (q := q) (r := r) er hp hp hq
      (fun h => npr (sh_sm_symm h)) (fun h => npr (sh_sm_symm h)) nqr (by omega) (by omega) (gm_pp hhr wp) (H * w p) ?_ ?_ ?_
    · simp only [sh_u] at r1; grind
    · simp only [sh_u] at r2; grind
    · grind

def sh_N (x y w : Nat → Int) (c p q : Nat) : Prop :=
  q < c ∧ ¬ sh_sm x y w q p ∧ ∃ a b : Int, (∀ j, j < c → ¬ sh_sm x y w j p → 0 < sh_h x y w a b p j) ∧ ∀ j, j < c → ¬ sh_sm x y w j p → sh_G x y w a b p q j
theorem sh_Dcyc (p q r : Nat) : sh_D x y w q r p = sh_D x y w p q r := by simp only [sh_D]; grind
theorem sh_Dswp (p q r : Nat) : sh_D x y w q p r = -sh_D x y w p q r := by simp only [sh_D]; grind
theorem sh_Dsm {p q r s : Nat} (h : sh_sm x y w r s) : sh_D x y w p q r * w s = sh_D x y w p q s * w r := by
  obtain ⟨a, b⟩ := h
  simp only [sh_D]; grind
theorem sh_Dpqp (p q : Nat) : sh_D x y w p q p = 0 := by simp only [sh_D]; grind
theorem sh_Dqq (p q : Nat) : sh_D x y w p q q = 0 := by simp only [sh_D]; grind
theorem sh_N_D {p q j : Nat} (hw : ∀ j, j < c → 0 < w j) (hp : p < c) (h : sh_N x y w c p q) (hj : j < c) : 0 ≤ sh_D x y w p q j := by
  have wp := hw p hp
  by_cases s : sh_sm x y w j p
  · have := sh_Dsm (p := p) (q := q) s
    rw [sh_Dpqp] at this
    have wj := hw j hj
    have : sh_D x y w p q j = 0 := (Int.mul_eq_zero.mp (by omega : sh_D x y w p q j * w p = 0)).resolve_right (by omega)
    omega
  · obtain ⟨_, _, a, b, _, hG⟩ := h
    have : 0 ≤ sh_C x y w p q j := by
      rcases hG j hj s with g | ⟨g, _⟩ <;> omega
    rw [sh_CD] at this
    exact gm_mul_cancel wp (by omega)
theorem sh_Dsm0 {p q r : Nat} (wq : 0 < w q) (h : sh_sm x y w r q) : sh_D x y w p q r = 0 := by
  have := sh_Dsm (p := p) (q := q) h
  rw [sh_Dqq] at this
  exact (Int.mul_eq_zero.mp (by omega : sh_D x y w p q r * w q = 0)).resolve_right (by omega)

/-- what the walk has met after i steps -/
def sh_I (x y w : Nat → Int) (c : Nat) (P : Nat → Nat) (i : Nat) : Prop :=
  (∀ t, t ≤ i → P t < c ∧ sh_E x y w c (P t)) ∧ (∀ t, 1 ≤ t → t ≤ i → ¬ sh_sm x y w (P t) (P 0)) ∧
  (∀ r, r < c → sh_E x y w c r → ¬ sh_sm x y w r (P 0) → ((∃ t, 1 ≤ t ∧ t ≤ i ∧ sh_sm x y w r (P t)) ↔ ¬ 0 < sh_D x y w (P 0) (P i) r)) ∧
  (∀ s t, s < t → t ≤ i → ¬ sh_sm x y w (P t) (P s))

theorem sh_I1 {P : Nat → Nat} (hw : ∀ j, j < c → 0 < w j) (h0 : P 0 < c) (hE : sh_E x y w c (P 0)) (hN : sh_N x y w c (P 0) (P 1)) : sh_I x y w c P 1 := by
  have hN' := hN
  obtain ⟨q1, q2, a, b, q3, q4⟩ := hN
  have e1 := sh_E_next hw h0 q1 q2 q3 q4
  refine ⟨fun t ht => ?_, fun t h1 h2 => ?_, fun r hr re rn => ?_, fun s t hst ht => ?_⟩
  · have : t = 0 ∨ t = 1 := by omega
    rcases this with e | e <;> subst e
    · exact ⟨h0, hE⟩
    · exact ⟨q1, e1⟩
  · have : t = 1 := by omega
    subst this; exact q2
  · constructor
    · intro h
      obtain ⟨t, h1, h2, h3⟩ := h
      have : t = 1 := by omega
      subst this
      rw [sh_Dsm0 (hw _ q1) h3]; omega
    · intro h
      refine ⟨1, by omega, by omega, ?_⟩
      apply Classical.byContradiction
      intro hn
      have k := sh_N_D hw h0 hN' hr
      have := sh_col hw h0 q1 hr hE e1 re q2 rn (fun h => hn (sh_sm_symm h))
      omega
  · have : s = 0 ∧ t = 1 := by omega
    obtain ⟨a, b⟩ := this
    subst a b
    exact q2

theorem sh_Is {P : Nat → Nat} {i : Nat} (hw : ∀ j, j < c → 0 < w j) (hi : 1 ≤ i) (h : sh_I x y w c P i) (hN : sh_N x y w c (P i) (P (i + 1)))
    (hns : ¬ sh_sm x y w (P (i + 1)) (P 0)) : sh_I x y w c P (i + 1) := by
  have hN' := hN
  obtain ⟨q1, q2, a, b, q3, q4⟩ := hN
  obtain ⟨i1, i2, i3, i4⟩ := h
  have pc := (i1 i (by omega)).1
  have pE := (i1 i (by omega)).2
  have sc := (i1 0 (by omega)).1
  have sE := (i1 0 (by omega)).2
  have ps := i2 i hi (by omega)
  have qE := sh_E_next hw pc q1 q2 q3 q4
  have hD : 0 < sh_D x y w (P 0) (P i) (P (i + 1)) := by
    have k := sh_N_D hw pc hN' sc
    rw [sh_Dcyc (P 0) (P i) (P (i + 1))] at k
    have := sh_col hw sc pc q1 sE pE qE ps hns (fun h => q2 (sh_sm_symm h))
    omega
  obtain ⟨sa, sb, sh⟩ := sE
  refine ⟨fun t ht => ?_, fun t h1 h2 => ?_, fun r hr re rn => ?_, fun s t hst ht => ?_⟩
  · by_cases e : t = i + 1
    · subst e; exact ⟨q1, qE⟩
    · exact i1 t (by omega)
  · by_cases e : t = i + 1
    · subst e; exact hns
    · exact i2 t h1 (by omega)
  · constructor
    · intro h
      obtain ⟨t, h1, h2, h3⟩ := h
      by_cases e : t = i + 1
      · subst e
        rw [sh_Dsm0 (hw _ q1) h3]; omega
      · have k := (i3 r hr re rn).mp ⟨t, h1, by omega, h3⟩
        intro hpos
        have T := sh_tie (x := x) (y := y) (w := w) sa sb (P 0) (P i) r (P (i + 1))
        have w0 := hw _ sc
        have hp := sh _ pc ps
        have hr' := sh r hr rn
        have hq := sh _ q1 hns
        rw [sh_CD, sh_CD, sh_CD] at T
        have f0 : sh_D x y w (P 0) (P (i + 1)) (P i) = -sh_D x y w (P 0) (P i) (P (i + 1)) := by
          rw [← sh_Dcyc, sh_Dswp, sh_Dcyc]
        rw [f0] at T
        have f1 := gm_pp hp (gm_pp w0 hpos)
        have f2 := gm_pp hr' (gm_pp w0 hD)
        have f3 := gm_np (Int.le_of_lt hq) (gm_np (Int.le_of_lt w0) (show sh_D x y w (P 0) (P i) r ≤ 0 by omega))
        have e4 : sh_h x y w sa sb (P 0) r * (w (P 0) * -sh_D x y w (P 0) (P i) (P (i + 1))) = -(sh_h x y w sa sb (P 0) r * (w (P 0) * sh_D x y w (P 0) (P i) (P (i + 1)))) := by grind
        omega
    · intro h
      by_cases e : sh_sm x y w r (P (i + 1))
      · exact ⟨i + 1, by omega, by omega, e⟩
      · by_cases k : 0 < sh_D x y w (P 0) (P i) r
        · exfalso
          have c1 := sh_col hw sc q1 hr ⟨sa, sb, sh⟩ qE re hns rn (fun h => e (sh_sm_symm h))
          have f0 : sh_D x y w (P 0) r (P (i + 1)) = -sh_D x y w (P 0) (P (i + 1)) r := by
            rw [← sh_Dcyc, sh_Dswp, sh_Dcyc]
          have rp : ¬ sh_sm x y w r (P i) := fun h => by
            have := sh_Dsm0 (p := P 0) (hw _ pc) h
            omega
          obtain ⟨m1, m2, m3⟩ := sh_comb (x := x) (y := y) (w := w) (P 0) (P i) (P (i + 1)) r
          exact sh_mean re sc pc q1 (fun h => rn (sh_sm_symm h)) (fun h => rp (sh_sm_symm h)) (fun h => e (sh_sm_symm h))
            (sh_N_D hw pc hN' hr) (show 0 < sh_D x y w (P 0) r (P (i + 1)) by omega) k _ m1 m2 m3
        · obtain ⟨t, h1, h2, h3⟩ := (i3 r hr re rn).mpr k
          exact ⟨t, h1, by omega, h3⟩
  · by_cases e : t = i + 1
    · subst e
      by_cases e0 : s = 0
      · subst e0; exact hns
      · intro hh
        have := (i3 _ q1 qE hns).mp ⟨s, by omega, by omega, hh⟩
        exact this hD
    · exact i4 s t hst (by omega)

/-- back at the start: all outer ones are met -/
theorem sh_end {P : Nat → Nat} {i : Nat} (hw : ∀ j, j < c → 0 < w j) (hi : 1 ≤ i) (h : sh_I x y w c P i) {q : Nat} (hN : sh_N x y w c (P i) q)
    (hs : sh_sm x y w q (P 0)) : ∀ r, r < c → sh_E x y w c r → ∃ t, t ≤ i ∧ sh_sm x y w r (P t) := by
  intro r hr re
  obtain ⟨i1, i2, i3, i4⟩ := h
  by_cases rn : sh_sm x y w r (P 0)
  · exact ⟨0, by omega, rn⟩
  · have pc := (i1 i (by omega)).1
    have sc := (i1 0 (by omega)).1
    have k := sh_N_D hw pc hN hr
    have e1 : sh_D x y w r (P i) q * w (P 0) = sh_D x y w r (P i) (P 0) * w q := sh_Dsm hs
    have wq := hw q hN.1
    have ws := hw _ sc
    have : ¬ 0 < sh_D x y w (P 0) (P i) r := by
      intro hp
      have f1 : sh_D x y w r (P i) (P 0) = -sh_D x y w (P 0) (P i) r := by
        simp only [sh_D]; grind
      have f2 : sh_D x y w r (P i) q = sh_D x y w (P i) q r := (sh_Dcyc r (P i) q).symm
      rw [f1, f2] at e1
      have g1 := gm_nn k (Int.le_of_lt ws)
      have g2 := gm_pp hp wq
      have e2 : -sh_D x y w (P 0) (P i) r * w q = -(sh_D x y w (P 0) (P i) r * w q) := by grind
      omega
    obtain ⟨t, _, h2, h3⟩ := (i3 r hr re rn).mpr this
    exact ⟨t, h2, h3⟩

theorem sh_E_sm {p p' : Nat} (hw : ∀ j, j < c → 0 < w j) (hp : p < c) (hp' : p' < c) (h : sh_sm x y w p p') (e : sh_E x y w c p) : sh_E x y w c p' := by
  obtain ⟨a, b, k⟩ := e
  have w1 := hw p hp
  have w2 := hw p' hp'
  refine ⟨a, b, fun j hj hn => ?_⟩
  have := k j hj (fun g => hn (sh_sm_trans (by omega) g h))
  apply gm_mul_cancel_lt w1
  have e1 : w p * sh_h x y w a b p' j = w p' * sh_h x y w a b p j := by
    obtain ⟨u, v⟩ := h
    simp only [sh_h, sh_u]; grind
  rw [e1, Int.mul_zero]
  exact gm_pp w2 this

theorem sh_cnt {P : Nat → Nat} {m : Nat} (hw : ∀ j, j < c → 0 < w j) (h1 : ∀ t, t < m → P t < c ∧ sh_E x y w c (P t))
    (h2 : ∀ s t, s < t → t < m → ¬ sh_sm x y w (P t) (P s)) (h3 : ∀ r, r < c → sh_E x y w c r → ∃ t, t < m ∧ sh_sm x y w r (P t)) :
    gm_cn (fun k => (∀ j, j < k → ¬ sh_sm x y w j k) ∧ sh_E x y w c k) c = m := by
  have hg : ∀ t : Nat, ∃ k : Nat, t < m → (k < c ∧ sh_sm x y w k (P t) ∧ ∀ j, j < k → ¬ sh_sm x y w j (P t)) := by
    intro t
    by_cases ht : t < m
    · have : ∀ n k, k < n → sh_sm x y w k (P t) → ∃ k', k' ≤ k ∧ sh_sm x y w k' (P t) ∧ ∀ j, j < k' → ¬ sh_sm x y w j (P t) := by
        intro n
        induction n with
        | zero => intro k hk; omega
        | succ n ih =>
          intro k hk hs
          by_cases hx : ∃ j, j < k ∧ sh_sm x y w j (P t)
          · obtain ⟨j, hj, js⟩ := hx
            obtain ⟨k', a, b⟩ := ih j (by omega) js
            exact ⟨k', by omega, b⟩
          · exact ⟨k, by omega, hs, fun j hj js => hx ⟨j, hj, js⟩⟩
      obtain ⟨k', a, b⟩ := this (P t + 1) (P t) (by omega) (sh_sm_refl _)
      have := (h1 t ht).1
      exact ⟨k', fun _ => ⟨by omega, b⟩⟩
    · exact ⟨0, fun h => absurd h ht⟩
  obtain ⟨g, hg⟩ := Classical.skolem.mp hg
  refine sh_cn_bij c g m _ (fun t ht => ?_) (fun s t hst ht e => ?_) (fun k hk hp => ?_)
  · obtain ⟨a, b, d⟩ := hg t ht
    obtain ⟨pc, pe⟩ := h1 t ht
    have wg := hw _ a
    have wp := hw _ pc
    exact ⟨a, fun j hj js => d j hj (sh_sm_trans (by omega) js b), sh_E_sm hw pc a (sh_sm_symm b) pe⟩
  · obtain ⟨a, b, _⟩ := hg s (by omega)
    obtain ⟨a', b', _⟩ := hg t ht
    rw [e] at b
    have wg := hw _ a'
    exact h2 s t hst ht (sh_sm_trans (by omega) (sh_sm_symm b') b)
  · obtain ⟨t, ht, hs⟩ := h3 k hk hp.2
    refine ⟨t, ht, ?_⟩
    obtain ⟨a, b, d⟩ := hg t ht
    have wp := hw _ (h1 t ht).1
    rcases Nat.lt_trichotomy (g t) k with e | e | e
    · exact absurd (sh_sm_trans (by omega) b (sh_sm_symm hs)) (hp.1 _ e)
    · exact e
    · exact absurd hs (d k e)
end
