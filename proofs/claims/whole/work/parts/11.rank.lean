/-! The rank of a set of planes, and what it says of the corners that lie in them -/
section
def rk_is (Q : Nat → gm_V) (S : Nat → Prop) (r : Nat) : Prop :=
  (r = 0 ∧ ∀ i, ¬ S i) ∨
  (r = 1 ∧ ∃ p, S p ∧ ∀ i, S i → gm_cr (Q p) (Q i) = (0, 0, 0, 0)) ∨
  (r = 2 ∧ ∃ p q, S p ∧ S q ∧ gm_cr (Q p) (Q q) ≠ (0, 0, 0, 0) ∧ ∀ i, S i → gm_dt (Q p) (Q q) (Q i) = 0) ∨
  (r = 3 ∧ ∃ p q s, S p ∧ S q ∧ S s ∧ gm_dt (Q p) (Q q) (Q s) ≠ 0)
def rk_nz (a : gm_V) : Prop := ¬ (a.1 = 0 ∧ a.2.1 = 0 ∧ a.2.2.1 = 0)

theorem rk_cr0 {s a b : gm_V} (hs : rk_nz s) (ha : gm_cr s a = (0, 0, 0, 0)) (hb : gm_cr s b = (0, 0, 0, 0)) : gm_cr a b = (0, 0, 0, 0) := by
  obtain ⟨s1, s2, s3, s4⟩ := s
  obtain ⟨a1, a2, a3, a4⟩ := a
  obtain ⟨b1, b2, b3, b4⟩ := b
  simp only [gm_cr, Prod.mk.injEq] at *
  obtain ⟨x1, x2, x3, _⟩ := ha
  obtain ⟨y1, y2, y3, _⟩ := hb
  have hq : s1 * s1 + s2 * s2 + s3 * s3 ≠ 0 := fun h => hs (gm_sq _ _ _ h)
  have k1 : (s1 * s1 + s2 * s2 + s3 * s3) * (a2 * b3 - a3 * b2) = 0 := by grind
  have k2 : (s1 * s1 + s2 * s2 + s3 * s3) * (a3 * b1 - a1 * b3) = 0 := by grind
  have k3 : (s1 * s1 + s2 * s2 + s3 * s3) * (a1 * b2 - a2 * b1) = 0 := by grind
  exact ⟨(Int.mul_eq_zero.mp k1).resolve_left hq, (Int.mul_eq_zero.mp k2).resolve_left hq, (Int.mul_eq_zero.mp k3).resolve_left hq, by trivial⟩
theorem rk_dt_cr {a b c : gm_V} (h : gm_dt a b c ≠ 0) : gm_cr a b ≠ (0, 0, 0, 0) := by
  intro e
  apply h
  rw [← gm_dtc, ← gm_dtc, ← gm_ev_cr, e]
  simp [gm_ev]
theorem rk_cr_anti {a b : gm_V} (h : gm_cr a b = (0, 0, 0, 0)) : gm_cr b a = (0, 0, 0, 0) := by
  simp only [gm_cr, Prod.mk.injEq] at *
  obtain ⟨h1, h2, h3, _⟩ := h
  refine ⟨?_, ?_, ?_, by trivial⟩ <;> grind

variable {Q : Nat → gm_V} {S : Nat → Prop} {r : Nat}
/-- a triple that meets in a point: rank 3 -/
theorem rk_3 (hz : ∀ i, S i → rk_nz (Q i)) (h : rk_is Q S r) {i j k : Nat} (hi : S i) (hj : S j) (hk : S k) (hd : gm_dt (Q i) (Q j) (Q k) ≠ 0) : r = 3 := by
  rcases h with ⟨_, h⟩ | ⟨_, p, hp, h⟩ | ⟨_, p, q, hp, hq, hc, h⟩ | ⟨e, _⟩
  · exact absurd hi (h i)
  · exact absurd (gm_dt0 (hz p hp) (h i hi) (h j hj)) hd
  · exfalso
    apply hc
    refine gm_cramer hd rfl ?_ ?_ ?_
    · rw [gm_ev_cr, ← gm_dtc]; exact h i hi
    · rw [gm_ev_cr, ← gm_dtc]; exact h j hj
    · rw [gm_ev_cr, ← gm_dtc]; exact h k hk
  · exact e
/-- planes that cross: rank 2 or more -/
theorem rk_ge2 (h : rk_is Q S r) (h2 : 2 ≤ r) : ∃ i j, S i ∧ S j ∧ gm_cr (Q i) (Q j) ≠ (0, 0, 0, 0) := by
  rcases h with ⟨e, _⟩ | ⟨e, _⟩ | ⟨_, p, q, hp, hq, hc, _⟩ | ⟨_, p, q, s, hp, hq, hs, hd⟩
  · omega
  · omega
  · exact ⟨p, q, hp, hq, hc⟩
  · exact ⟨p, q, hp, hq, rk_dt_cr hd⟩
theorem rk_lt2 (hz : ∀ i, S i → rk_nz (Q i)) (h : rk_is Q S r) (h2 : r < 2) : ∀ i j, S i → S j → gm_cr (Q i) (Q j) = (0, 0, 0, 0) := by
  rcases h with ⟨_, h⟩ | ⟨_, p, hp, h⟩ | ⟨e, _⟩ | ⟨e, _⟩
  · intro i j hi; exact absurd hi (h i)
  · intro i j hi hj
    exact rk_cr0 (hz p hp) (h i hi) (h j hj)
  · omega
  · omega
theorem rk_is3 (h : rk_is Q S r) (h3 : r = 3) : ∃ i j k, S i ∧ S j ∧ S k ∧ gm_dt (Q i) (Q j) (Q k) ≠ 0 := by
  rcases h with ⟨e, _⟩ | ⟨e, _⟩ | ⟨e, _⟩ | ⟨_, p, q, s, hp, hq, hs, hd⟩
  · omega
  · omega
  · omega
  · exact ⟨p, q, s, hp, hq, hs, hd⟩
theorem rk_le3 (h : rk_is Q S r) : r ≤ 3 := by
  rcases h with ⟨e, _⟩ | ⟨e, _⟩ | ⟨e, _⟩ | ⟨e, _⟩ <;> omega
theorem rk_0 (h : rk_is Q S r) : r = 0 ↔ ∀ i, ¬ S i := by
  rcases h with ⟨e, h⟩ | ⟨e, p, hp, h⟩ | ⟨e, p, q, hp, hq, hc, h⟩ | ⟨e, p, q, s, hp, hq, hs, hd⟩
  · exact ⟨fun _ => h, fun _ => e⟩
  · exact ⟨fun e' => by omega, fun h' => absurd hp (h' p)⟩
  · exact ⟨fun e' => by omega, fun h' => absurd hp (h' p)⟩
  · exact ⟨fun e' => by omega, fun h' => absurd hp (h' p)⟩

variable {ac : Nat → Prop} {n : Nat}
/-- one corner: rank 3 -/
theorem rk_c1 {v : gm_V} (hz : ∀ i, ac i → rk_nz (Q i)) (hv : gm_Vx Q ac v) (h : rk_is Q (fun i => ac i ∧ gm_ev (Q i) v = 0) r) : r = 3 := by
  obtain ⟨_, _, i, j, k, hi, hj, hk, hd, ei, ej, ek⟩ := hv
  exact rk_3 (fun i hi => hz i hi.1) h (i := i) (j := j) (k := k) ⟨hi, ei⟩ ⟨hj, ej⟩ ⟨hk, ek⟩ hd
/-- two corners: rank 2 iff no third is in all planes of both -/
theorem rk_c2 {v u : gm_V} (hac : ∀ i, ac i → i < n) (hB : gm_Bd Q ac) (hz : ∀ i, ac i → rk_nz (Q i)) (hv : gm_Vx Q ac v) (hu : gm_Vx Q ac u) (hne : ¬ gm_pr v u)
    (h : rk_is Q (fun i => ac i ∧ gm_ev (Q i) v = 0 ∧ gm_ev (Q i) u = 0) r) :
    r = 2 ↔ ¬ ∃ t, gm_Vx Q ac t ∧ ¬ gm_pr t v ∧ ¬ gm_pr t u ∧ ∀ i, ac i → gm_ev (Q i) v = 0 → gm_ev (Q i) u = 0 → gm_ev (Q i) t = 0 := by
  constructor
  · intro e hx
    obtain ⟨t, ht, n1, n2, hT⟩ := hx
    obtain ⟨i, j, hi, hj, hc⟩ := rk_ge2 h (by omega)
    exact gm_col hc ht hv hu ⟨hT i hi.1 hi.2.1 hi.2.2, hT j hj.1 hj.2.1 hj.2.2⟩ ⟨hi.2.1, hj.2.1⟩ ⟨hi.2.2, hj.2.2⟩ n1 hne (fun g => n2 (gm_pr_symm g))
  · intro hx
    have h3 := rk_le3 h
    by_cases e : r = 2
    · exact e
    · exfalso
      by_cases e3 : r = 3
      · obtain ⟨i, j, k, hi, hj, hk, hd⟩ := rk_is3 h e3
        exact hne (gm_uniq hd hi.2.1 hj.2.1 hk.2.1 hi.2.2 hj.2.2 hk.2.2)
      · have hc := rk_lt2 (fun i hi => hz i hi.1) h (by omega)
        obtain ⟨t, ht, hT, n1, n2⟩ := gm_third hac hB hv hu hne (fun i j hi hj a b d e => hc i j ⟨hi, a, b⟩ ⟨hj, d, e⟩)
        exact hx ⟨t, ht, n1, n2, hT⟩
/-- three corners: rank 0 or 1 -/
theorem rk_c3 {v u t : gm_V} (hv : gm_Vx Q ac v) (hu : gm_Vx Q ac u) (ht : gm_Vx Q ac t) (n1 : ¬ gm_pr v u) (n2 : ¬ gm_pr u t) (n3 : ¬ gm_pr t v)
    (hS : ∀ i, S i → gm_ev (Q i) v = 0 ∧ gm_ev (Q i) u = 0 ∧ gm_ev (Q i) t = 0) (h : rk_is Q S r) : r < 2 := by
  rcases Nat.lt_or_ge r 2 with g | g
  · exact g
  · exfalso
    obtain ⟨i, j, hi, hj, hc⟩ := rk_ge2 h g
    exact gm_col hc hv hu ht ⟨(hS i hi).1, (hS j hj).1⟩ ⟨(hS i hi).2.1, (hS j hj).2.1⟩ ⟨(hS i hi).2.2, (hS j hj).2.2⟩ n1 n2 n3
end
