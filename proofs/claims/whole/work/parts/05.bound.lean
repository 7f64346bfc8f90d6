/-! At most two corners a plane: each corner is the first or the last point of the body in one of its planes -/
section
def gm_lt (p q : gm_V) : Prop :=
  p.1 * q.2.2.2 < q.1 * p.2.2.2 ∨ (p.1 * q.2.2.2 = q.1 * p.2.2.2 ∧
    (p.2.1 * q.2.2.2 < q.2.1 * p.2.2.2 ∨ (p.2.1 * q.2.2.2 = q.2.1 * p.2.2.2 ∧ p.2.2.1 * q.2.2.2 < q.2.2.1 * p.2.2.2)))
theorem gm_tri {p q : gm_V} (h1 : ¬ gm_lt p q) (h2 : ¬ gm_lt q p) : gm_pr p q := by
  simp only [gm_lt, gm_pr] at *
  omega
theorem gm_lt_npr {p q : gm_V} (h1 : gm_lt p q) : ¬ gm_pr p q := by
  intro h
  simp only [gm_lt, gm_pr] at *
  omega
theorem gm_lt_asymm {p q : gm_V} (h1 : gm_lt p q) : ¬ gm_lt q p := by
  simp only [gm_lt] at *
  omega

theorem gm_frac_lt {a b c u v w : Int} (hu : 0 < u) (hv : 0 < v) (hw : 0 < w) (h1 : a * v ≤ b * u) (h2 : b * w < c * v) : a * w < c * u := by
  apply gm_mul_cancel_lt hv
  have h3 := Int.mul_le_mul_of_nonneg_right h1 (Int.le_of_lt hw)
  have h4 := Int.mul_lt_mul_of_pos_right h2 hu
  have e1 : v * (a * w) = a * v * w := by grind
  have e2 : v * (c * u) = c * v * u := by grind
  have e3 : b * u * w = b * w * u := by grind
  omega
theorem gm_frac_lt' {a b c u v w : Int} (hu : 0 < u) (hv : 0 < v) (hw : 0 < w) (h1 : a * v < b * u) (h2 : b * w ≤ c * v) : a * w < c * u := by
  apply gm_mul_cancel_lt hv
  have h3 := Int.mul_lt_mul_of_pos_right h1 hw
  have h4 := Int.mul_le_mul_of_nonneg_right h2 (Int.le_of_lt hu)
  have e1 : v * (a * w) = a * v * w := by grind
  have e2 : v * (c * u) = c * v * u := by grind
  have e3 : b * u * w = b * w * u := by grind
  omega
theorem gm_frac_eq {a b c u v w : Int} (hv : 0 < v) (h1 : a * v = b * u) (h2 : b * w = c * v) : a * w = c * u := by
  have e : v * (a * w) = v * (c * u) := by grind
  exact Int.eq_of_mul_eq_mul_left (by omega) e

theorem gm_lt_trans {p q r : gm_V} (hp : 0 < p.2.2.2) (hq : 0 < q.2.2.2) (hr : 0 < r.2.2.2) (h1 : gm_lt p q) (h2 : gm_lt q r) : gm_lt p r := by
  simp only [gm_lt] at *
  rcases h1 with h1 | ⟨e1, h1⟩
  · left
    rcases h2 with h2 | ⟨e2, _⟩
    · exact gm_frac_lt hp hq hr (Int.le_of_lt h1) h2
    · exact gm_frac_lt' hp hq hr h1 (Int.le_of_eq e2)
  · rcases h2 with h2 | ⟨e2, h2⟩
    · left; exact gm_frac_lt hp hq hr (Int.le_of_eq e1) h2
    · right
      refine ⟨gm_frac_eq hq e1 e2, ?_⟩
      rcases h1 with h1 | ⟨f1, h1⟩
      · left
        rcases h2 with h2 | ⟨f2, _⟩
        · exact gm_frac_lt hp hq hr (Int.le_of_lt h1) h2
        · exact gm_frac_lt' hp hq hr h1 (Int.le_of_eq f2)
      · rcases h2 with h2 | ⟨f2, h2⟩
        · left; exact gm_frac_lt hp hq hr (Int.le_of_eq f1) h2
        · right; exact ⟨gm_frac_eq hq f1 f2, gm_frac_lt hp hq hr (Int.le_of_lt h1) h2⟩

def gm_lpos (d : gm_V) : Prop := 0 < d.1 ∨ (d.1 = 0 ∧ (0 < d.2.1 ∨ (d.2.1 = 0 ∧ 0 < d.2.2.1)))
def gm_sz (d : gm_V) : Int := d.2.1.natAbs + d.2.2.1.natAbs
theorem gm_hpos {d : gm_V} {M : Int} (hd : gm_lpos d) (hM : gm_sz d < M) (hw : d.2.2.2 = 0) : 0 < gm_ev (M * M, M, 1, 0) d := by
  obtain ⟨x, y, z, w⟩ := d
  simp only [gm_lpos, gm_sz, gm_ev] at *
  have hM0 : 0 < M := by omega
  have hMM : 0 ≤ M * M := gm_nn (by omega) (by omega)
  rcases hd with h | ⟨hx0, h | ⟨hy0, h⟩⟩
  · have h1 := Int.mul_le_mul_of_nonneg_left (show (1 : Int) ≤ x by omega) hMM
    have h2 := Int.mul_le_mul_of_nonneg_left (show 1 - M ≤ y + z.natAbs by omega) (Int.le_of_lt hM0)
    have h4 := Int.mul_le_mul_of_nonneg_right (show (1 : Int) ≤ M by omega) (show (0 : Int) ≤ z.natAbs by omega)
    have h5 := Int.mul_le_mul_of_nonneg_left (show 1 - M + z.natAbs ≤ y by omega) (Int.le_of_lt hM0)
    have e1 : M * (1 - M + z.natAbs) = M - M * M + M * z.natAbs := by grind
    omega
  · subst hx0
    have h2 := Int.mul_le_mul_of_nonneg_left (show (1 : Int) ≤ y by omega) (Int.le_of_lt hM0)
    omega
  · subst hx0 hy0
    simp only [Int.mul_zero]
    omega

theorem gm_pdir {Q : Nat → gm_V} {ac : Nat → Prop} {v p : gm_V} {t : Nat} (hv : 0 < v.2.2.2) (hp : gm_In Q ac p)
    (tp : gm_ev (Q t) p = 0) (tv : gm_ev (Q t) v = 0) :
    (gm_lc v.2.2.2 p (-p.2.2.2) v).2.2.2 = 0 ∧ gm_ev (Q t) (gm_lc v.2.2.2 p (-p.2.2.2) v) = 0 ∧
      ∀ s, ac s → gm_ev (Q s) v = 0 → gm_ev (Q s) (gm_lc v.2.2.2 p (-p.2.2.2) v) ≤ 0 := by
  refine ⟨?_, ?_, fun s hs sv => ?_⟩
  · rw [gm_w_lc]; grind
  · rw [gm_ev_lc, tp, tv]; simp
  · rw [gm_ev_lc, sv]
    have := gm_np (Int.le_of_lt hv) (hp s hs)
    omega
theorem gm_pdir_pos {v p : gm_V} (h : gm_lt v p) : gm_lpos (gm_lc v.2.2.2 p (-p.2.2.2) v) := by
  obtain ⟨v1, v2, v3, v4⟩ := v
  obtain ⟨p1, p2, p3, p4⟩ := p
  simp only [gm_lt, gm_lpos, gm_lc] at *
  have e1 : v4 * p1 + -p4 * v1 = p1 * v4 - v1 * p4 := by grind
  have e2 : v4 * p2 + -p4 * v2 = p2 * v4 - v2 * p4 := by grind
  have e3 : v4 * p3 + -p4 * v3 = p3 * v4 - v3 * p4 := by grind
  rw [e1, e2, e3]
  omega
theorem gm_pdir_neg {v p : gm_V} (h : gm_lt p v) : gm_lpos (gm_lc (-1) (gm_lc v.2.2.2 p (-p.2.2.2) v) 0 (gm_lc v.2.2.2 p (-p.2.2.2) v)) := by
  obtain ⟨v1, v2, v3, v4⟩ := v
  obtain ⟨p1, p2, p3, p4⟩ := p
  simp only [gm_lt, gm_lpos, gm_lc] at *
  have e1 : v4 * p1 + -p4 * v1 = p1 * v4 - v1 * p4 := by grind
  have e2 : v4 * p2 + -p4 * v2 = p2 * v4 - v2 * p4 := by grind
  have e3 : v4 * p3 + -p4 * v3 = p3 * v4 - v3 * p4 := by grind
  rw [e1, e2, e3]
  omega

theorem gm_hev_pos {v p : gm_V} {M : Int} (h : gm_lt v p) (hw : (gm_lc v.2.2.2 p (-p.2.2.2) v).2.2.2 = 0) (hM : gm_sz (gm_lc v.2.2.2 p (-p.2.2.2) v) < M) :
    0 < gm_ev (M * M, M, 1, 0) (gm_lc v.2.2.2 p (-p.2.2.2) v) := gm_hpos (gm_pdir_pos h) hM hw
theorem gm_sz_neg (d : gm_V) : gm_sz (gm_lc (-1) d 0 d) = gm_sz d := by
  simp only [gm_sz, gm_lc]; omega
theorem gm_hev_neg {v p : gm_V} {M : Int} (h : gm_lt p v) (hw : (gm_lc v.2.2.2 p (-p.2.2.2) v).2.2.2 = 0) (hM : gm_sz (gm_lc v.2.2.2 p (-p.2.2.2) v) < M) :
    gm_ev (M * M, M, 1, 0) (gm_lc v.2.2.2 p (-p.2.2.2) v) < 0 := by
  have := gm_hpos (gm_pdir_neg h) (by rw [gm_sz_neg]; exact hM) (gm_neg_w hw)
  rw [gm_neg_ev] at this
  omega

theorem gm_sz0 (d : gm_V) : 0 ≤ gm_sz d := by simp only [gm_sz]; omega

theorem gm_ext {Q : Nat → gm_V} {ac : Nat → Prop} {v : gm_V} (hv : gm_Vx Q ac v) :
    ∃ i, ac i ∧ gm_ev (Q i) v = 0 ∧ ((∀ p, gm_In Q ac p → gm_ev (Q i) p = 0 → ¬ gm_lt v p) ∨ (∀ p, gm_In Q ac p → gm_ev (Q i) p = 0 → ¬ gm_lt p v)) := by
  apply Classical.byContradiction
  intro hn
  have hP : ∀ i, ac i → gm_ev (Q i) v = 0 → ∃ p, gm_In Q ac p ∧ gm_ev (Q i) p = 0 ∧ gm_lt v p := by
    intro i hi iv
    apply Classical.byContradiction
    intro h
    exact hn ⟨i, hi, iv, .inl fun p a b c => h ⟨p, a, b, c⟩⟩
  have hR : ∀ i, ac i → gm_ev (Q i) v = 0 → ∃ p, gm_In Q ac p ∧ gm_ev (Q i) p = 0 ∧ gm_lt p v := by
    intro i hi iv
    apply Classical.byContradiction
    intro h
    exact hn ⟨i, hi, iv, .inr fun p a b c => h ⟨p, a, b, c⟩⟩
  obtain ⟨hw, _, i, j, k, hi, hj, hk, hd, ei, ej, ek⟩ := hv
  obtain ⟨p1, a1, b1, c1⟩ := hP i hi ei
  obtain ⟨p2, a2, b2, c2⟩ := hP j hj ej
  obtain ⟨p3, a3, b3, c3⟩ := hP k hk ek
  obtain ⟨r1, a1', b1', c1'⟩ := hR i hi ei
  obtain ⟨r2, a2', b2', c2'⟩ := hR j hj ej
  obtain ⟨r3, a3', b3', c3'⟩ := hR k hk ek
  obtain ⟨w1, t1, s1⟩ := gm_pdir hw a1 b1 ei
  obtain ⟨w2, t2, s2⟩ := gm_pdir hw a2 b2 ej
  obtain ⟨w3, t3, s3⟩ := gm_pdir hw a3 b3 ek
  obtain ⟨w1', t1', s1'⟩ := gm_pdir hw a1' b1' ei
  obtain ⟨w2', t2', s2'⟩ := gm_pdir hw a2' b2' ej
  obtain ⟨w3', t3', s3'⟩ := gm_pdir hw a3' b3' ek
  have H1 := fun M => gm_hev_pos (M := M) c1 w1
  have H2 := fun M => gm_hev_pos (M := M) c2 w2
  have H3 := fun M => gm_hev_pos (M := M) c3 w3
  have H1' := fun M => gm_hev_neg (M := M) c1' w1'
  have H2' := fun M => gm_hev_neg (M := M) c2' w2'
  have H3' := fun M => gm_hev_neg (M := M) c3' w3'
  generalize gm_lc v.2.2.2 p1 (-p1.2.2.2) v = P1 at *
  generalize gm_lc v.2.2.2 p2 (-p2.2.2.2) v = P2 at *
  generalize gm_lc v.2.2.2 p3 (-p3.2.2.2) v = P3 at *
  generalize gm_lc v.2.2.2 r1 (-r1.2.2.2) v = R1 at *
  generalize gm_lc v.2.2.2 r2 (-r2.2.2.2) v = R2 at *
  generalize gm_lc v.2.2.2 r3 (-r3.2.2.2) v = R3 at *
  have z1 := gm_sz0 P1
  have z2 := gm_sz0 P2
  have z3 := gm_sz0 P3
  have z1' := gm_sz0 R1
  have z2' := gm_sz0 R2
  have z3' := gm_sz0 R3
  obtain ⟨M, hM⟩ : ∃ M, M = 1 + gm_sz P1 + gm_sz P2 + gm_sz P3 + gm_sz R1 + gm_sz R2 + gm_sz R3 := ⟨_, rfl⟩
  have g1 := H1 M (by omega)
  have g2 := H2 M (by omega)
  have g3 := H3 M (by omega)
  have g1' := H1' M (by omega)
  have g2' := H2' M (by omega)
  have g3' := H3' M (by omega)
  clear H1 H2 H3 H1' H2' H3' hM z1 z2 z3 z1' z2' z3'
  have d2 : gm_dt (Q i) (Q k) (Q j) ≠ 0 := by rw [gm_dts]; omega
  have d3 : gm_dt (Q j) (Q k) (Q i) ≠ 0 := by rw [gm_dtc]; exact hd
  have d4 : gm_dt (Q j) (Q i) (Q k) ≠ 0 := by rw [gm_dts, gm_dtc]; omega
  have d5 : gm_dt (Q k) (Q i) (Q j) ≠ 0 := by rw [gm_dtc, gm_dtc]; exact hd
  have d6 : gm_dt (Q k) (Q j) (Q i) ≠ 0 := by rw [gm_dts, gm_dtc, gm_dtc]; omega
  refine gm_core (a := Q i) (b := Q j) (c := Q k) (h1 := M * M) (h2 := M)
    (u1 := gm_lc (-gm_ev (M * M, M, 1, 0) R1) P1 (gm_ev (M * M, M, 1, 0) P1) R1)
    (u2 := gm_lc (-gm_ev (M * M, M, 1, 0) R2) P2 (gm_ev (M * M, M, 1, 0) P2) R2)
    (u3 := gm_lc (-gm_ev (M * M, M, 1, 0) R3) P3 (gm_ev (M * M, M, 1, 0) P3) R3) ?_ ?_ ?_ ?_ ?_ ?_ ?_ ?_ ?_ ?_ ?_ ?_ ?_ ?_ ?_
  · rw [gm_w_lc, w1, w1']; simp
  · rw [gm_w_lc, w2, w2']; simp
  · rw [gm_w_lc, w3, w3']; simp
  · rw [gm_ev_lc]; grind
  · rw [gm_ev_lc]; grind
  · rw [gm_ev_lc]; grind
  · rw [gm_ev_lc, t1, t1']; simp
  · rw [gm_ev_lc, t2, t2']; simp
  · rw [gm_ev_lc, t3, t3']; simp
  · exact gm_wedge (a := Q j) (b := Q i) (c := Q k) d4 w2 w2' t2 t2' (s2 i hi ei) (s2' i hi ei) (s2 k hk ek) (s2' k hk ek) g2 g2'
  · exact gm_wedge (a := Q k) (b := Q i) (c := Q j) d5 w3 w3' t3 t3' (s3 i hi ei) (s3' i hi ei) (s3 j hj ej) (s3' j hj ej) g3 g3'
  · exact gm_wedge (a := Q i) (b := Q j) (c := Q k) hd w1 w1' t1 t1' (s1 j hj ej) (s1' j hj ej) (s1 k hk ek) (s1' k hk ek) g1 g1'
  · exact gm_wedge (a := Q k) (b := Q j) (c := Q i) d6 w3 w3' t3 t3' (s3 j hj ej) (s3' j hj ej) (s3 i hi ei) (s3' i hi ei) g3 g3'
  · exact gm_wedge (a := Q i) (b := Q k) (c := Q j) d2 w1 w1' t1 t1' (s1 k hk ek) (s1' k hk ek) (s1 j hj ej) (s1' j hj ej) g1 g1'
  · exact gm_wedge (a := Q j) (b := Q k) (c := Q i) d3 w2 w2' t2 t2' (s2 k hk ek) (s2' k hk ek) (s2 i hi ei) (s2' i hi ei) g2 g2'

theorem gm_pigeon : ∀ (N m : Nat) (f : Nat → Nat), (∀ i, i < m → f i < N) → (∀ i j, i < j → j < m → f i ≠ f j) → m ≤ N := by
  intro N
  induction N with
  | zero =>
    intro m f h _
    cases m with
    | zero => exact Nat.le_refl _
    | succ m => have := h 0 (by omega); omega
  | succ N ih =>
    intro m f h hi
    cases m with
    | zero => omega
    | succ m =>
      have := ih m (fun i => if f m < f i then f i - 1 else f i) (fun i hi2 => by
        have a := h i (by omega)
        have b := h m (by omega)
        have c := hi i m hi2 (by omega)
        split <;> omega) (fun i j hij hj => by
        have a := hi i j hij (by omega)
        have b := hi i m (by omega) (by omega)
        have c := hi j m (by omega) (by omega)
        split <;> split <;> omega)
      omega

theorem gm_bound {Q : Nat → gm_V} {ac : Nat → Prop} {n : Nat} (hac : ∀ i, ac i → i < n) (m : Nat) (f : Nat → gm_V)
    (hf : ∀ a, a < m → gm_Vx Q ac (f a)) (hi : ∀ a b, a < b → b < m → ¬ gm_pr (f a) (f b)) : m ≤ 2 * n := by
  have hc : ∀ a : Nat, ∃ c : Nat, a < m → (c < 2 * n ∧ ∃ i, ac i ∧ gm_ev (Q i) (f a) = 0 ∧
      ((c = 2 * i ∧ ∀ p, gm_In Q ac p → gm_ev (Q i) p = 0 → ¬ gm_lt (f a) p) ∨ (c = 2 * i + 1 ∧ ∀ p, gm_In Q ac p → gm_ev (Q i) p = 0 → ¬ gm_lt p (f a)))) := by
    intro a
    by_cases ha : a < m
    · obtain ⟨i, h1, h2, h3⟩ := gm_ext (hf a ha)
      have := hac i h1
      rcases h3 with h3 | h3
      · exact ⟨2 * i, fun _ => ⟨by omega, i, h1, h2, .inl ⟨rfl, h3⟩⟩⟩
      · exact ⟨2 * i + 1, fun _ => ⟨by omega, i, h1, h2, .inr ⟨rfl, h3⟩⟩⟩
    · exact ⟨0, fun h => absurd h ha⟩
  obtain ⟨g, hg⟩ := Classical.skolem.mp hc
  refine gm_pigeon (2 * n) m g (fun i h => (hg i h).1) (fun a b hab hb e => ?_)
  obtain ⟨_, i, ia, iv, h1⟩ := hg a (by omega)
  obtain ⟨_, j, ja, jv, h2⟩ := hg b hb
  have fa := (hf a (by omega)).2.1
  have fb := (hf b hb).2.1
  rcases h1 with ⟨e1, h1⟩ | ⟨e1, h1⟩
  · rcases h2 with ⟨e2, h2⟩ | ⟨e2, h2⟩
    · have : i = j := by omega
      subst this
      exact hi a b hab hb (gm_tri (h1 _ fb jv) (h2 _ fa iv))
    · omega
  · rcases h2 with ⟨e2, h2⟩ | ⟨e2, h2⟩
    · omega
    · have : i = j := by omega
      subst this
      exact hi a b hab hb (gm_tri (h2 _ fa iv) (h1 _ fb jv))
end
