/-! Third corner of a face, no three corners on a line, a better neighbour, at most two corners a plane -/
section
theorem gm_sn (a : Int) : 0 ≤ a * a := by
  rcases Int.le_total 0 a with h | h
  · exact Int.mul_nonneg h h
  · exact Int.mul_nonneg_of_nonpos_of_nonpos h h
theorem gm_sq (a b c : Int) (h : a * a + b * b + c * c = 0) : a = 0 ∧ b = 0 ∧ c = 0 := by
  have h1 : 0 ≤ a * a := gm_sn a
  have h2 : 0 ≤ b * b := gm_sn b
  have h3 : 0 ≤ c * c := gm_sn c
  have e1 : a * a = 0 := by omega
  have e2 : b * b = 0 := by omega
  have e3 : c * c = 0 := by omega
  exact ⟨(Int.mul_eq_zero.mp e1).elim id id, (Int.mul_eq_zero.mp e2).elim id id, (Int.mul_eq_zero.mp e3).elim id id⟩

theorem gm_self {e : gm_V} (hw : e.2.2.2 = 0) (h : e ≠ (0, 0, 0, 0)) : 0 < gm_ev e e := by
  obtain ⟨x, y, z, w⟩ := e
  dsimp only at hw
  subst hw
  simp only [gm_ev]
  have h1 : 0 ≤ x * x := gm_sn x
  have h2 : 0 ≤ y * y := gm_sn y
  have h3 : 0 ≤ z * z := gm_sn z
  rcases Int.lt_or_le 0 (x * x + y * y + z * z - 0 * 0) with h4 | h4
  · exact h4
  · exfalso
    obtain ⟨a, b, c⟩ := gm_sq x y z (by omega)
    apply h
    rw [a, b, c]

/-- the crossing of two rows, as a third row -/
theorem gm_dt_cr (a b : gm_V) : gm_dt a b (gm_cr a b) = gm_ev (gm_cr a b) (gm_cr a b) := by
  simp only [gm_dt, gm_cr, gm_ev]; grind
theorem gm_par {a b s : gm_V} (hc : gm_cr a b ≠ (0, 0, 0, 0)) (hw : s.2.2.2 = 0) (ha : gm_ev a s = 0) (hb : gm_ev b s = 0)
    (h : gm_ev (gm_cr a b) s = 0) : s = (0, 0, 0, 0) := by
  refine gm_cramer (a := a) (b := b) (c := gm_cr a b) ?_ hw ha hb h
  rw [gm_dt_cr]
  have := gm_self (e := gm_cr a b) rfl hc
  omega

/-- a corner that is a mean of two points of the body is both -/
theorem gm_mid {Q : Nat → gm_V} {ac : Nat → Prop} {v p q : gm_V} (hv : gm_Vx Q ac v) (hp : gm_In Q ac p) (hq : gm_In Q ac q)
    {g s t : Int} (hs : 0 < s) (ht : 0 < t) (e : gm_lc s p t q = gm_lc g v 0 v) : gm_pr p v ∧ gm_pr q v := by
  have key : ∀ i, ac i → gm_ev (Q i) v = 0 → gm_ev (Q i) p = 0 ∧ gm_ev (Q i) q = 0 := by
    intro i hi hz
    have h1 : gm_ev (Q i) (gm_lc s p t q) = gm_ev (Q i) (gm_lc g v 0 v) := by rw [e]
    rw [gm_ev_lc, gm_ev_lc, hz] at h1
    have a1 := hp i hi
    have a2 := hq i hi
    have b1 := gm_np (Int.le_of_lt hs) a1
    have b2 := gm_np (Int.le_of_lt ht) a2
    have c1 : s * gm_ev (Q i) p = 0 := by omega
    have c2 : t * gm_ev (Q i) q = 0 := by omega
    exact ⟨(Int.mul_eq_zero.mp c1).resolve_left (by omega), (Int.mul_eq_zero.mp c2).resolve_left (by omega)⟩
  obtain ⟨_, _, i, j, k, hi, hj, hk, hd, ei, ej, ek⟩ := hv
  exact ⟨gm_uniq hd (key i hi ei).1 (key j hj ej).1 (key k hk ek).1 ei ej ek, gm_uniq hd (key i hi ei).2 (key j hj ej).2 (key k hk ek).2 ei ej ek⟩

/-- a linear tie of three, from the two rows that all three keep -/
theorem gm_tie {a b p q r : gm_V} (hc : gm_cr a b ≠ (0, 0, 0, 0)) (hp : gm_ev a p = 0 ∧ gm_ev b p = 0) (hq : gm_ev a q = 0 ∧ gm_ev b q = 0)
    (hr : gm_ev a r = 0 ∧ gm_ev b r = 0) :
    gm_lc 1 (gm_lc (gm_ev (gm_cr a b) q * r.2.2.2 - gm_ev (gm_cr a b) r * q.2.2.2) p (gm_ev (gm_cr a b) r * p.2.2.2 - gm_ev (gm_cr a b) p * r.2.2.2) q)
      (gm_ev (gm_cr a b) p * q.2.2.2 - gm_ev (gm_cr a b) q * p.2.2.2) r = (0, 0, 0, 0) := by
  apply gm_par hc
  · rw [gm_w_lc, gm_w_lc]; grind
  · rw [gm_ev_lc, gm_ev_lc, hp.1, hq.1, hr.1]; simp
  · rw [gm_ev_lc, gm_ev_lc, hp.2, hq.2, hr.2]; simp
  · rw [gm_ev_lc, gm_ev_lc]; grind

theorem gm_tie0 {a b p q : gm_V} (hc : gm_cr a b ≠ (0, 0, 0, 0)) (hp : gm_ev a p = 0 ∧ gm_ev b p = 0) (hq : gm_ev a q = 0 ∧ gm_ev b q = 0)
    (h : gm_ev (gm_cr a b) p * q.2.2.2 - gm_ev (gm_cr a b) q * p.2.2.2 = 0) : gm_pr p q := by
  apply gm_pr_of
  apply gm_par hc
  · rw [gm_w_lc]; grind
  · rw [gm_ev_lc, hp.1, hq.1]; simp
  · rw [gm_ev_lc, hp.2, hq.2]; simp
  · rw [gm_ev_lc]; grind

theorem gm_lc_flip {s t g : Int} {p q v : gm_V} (h : gm_lc 1 (gm_lc s p t q) g v = (0, 0, 0, 0)) : gm_lc s p t q = gm_lc (-g) v 0 v ∧ gm_lc (-s) p (-t) q = gm_lc g v 0 v := by
  obtain ⟨p1, p2, p3, p4⟩ := p
  obtain ⟨q1, q2, q3, q4⟩ := q
  obtain ⟨v1, v2, v3, v4⟩ := v
  simp only [gm_lc, Prod.mk.injEq] at h ⊢
  obtain ⟨h1, h2, h3, h4⟩ := h
  refine ⟨⟨?_, ?_, ?_, ?_⟩, ?_, ?_, ?_, ?_⟩ <;> grind

theorem gm_mid2 {Q : Nat → gm_V} {ac : Nat → Prop} {v p q : gm_V} (hv : gm_Vx Q ac v) (hp : gm_In Q ac p) (hq : gm_In Q ac q)
    {g s t : Int} (h : (0 < s ∧ 0 < t) ∨ (s < 0 ∧ t < 0)) (e : gm_lc 1 (gm_lc s p t q) g v = (0, 0, 0, 0)) : gm_pr p v ∧ gm_pr q v := by
  obtain ⟨e1, e2⟩ := gm_lc_flip e
  rcases h with ⟨h1, h2⟩ | ⟨h1, h2⟩
  · exact gm_mid hv hp hq h1 h2 e1
  · exact gm_mid hv hp hq (s := -s) (t := -t) (by omega) (by omega) e2

theorem gm_rot {s t g : Int} {p q r : gm_V} (h : gm_lc 1 (gm_lc s p t q) g r = (0, 0, 0, 0)) : gm_lc 1 (gm_lc t q g r) s p = (0, 0, 0, 0) := by
  obtain ⟨p1, p2, p3, p4⟩ := p
  obtain ⟨q1, q2, q3, q4⟩ := q
  obtain ⟨v1, v2, v3, v4⟩ := r
  simp only [gm_lc, Prod.mk.injEq] at h ⊢
  obtain ⟨h1, h2, h3, h4⟩ := h
  refine ⟨?_, ?_, ?_, ?_⟩ <;> grind

/-- no three corners lie in two planes that cross -/
theorem gm_col {Q : Nat → gm_V} {ac : Nat → Prop} {a b p q r : gm_V} (hc : gm_cr a b ≠ (0, 0, 0, 0))
    (hp : gm_Vx Q ac p) (hq : gm_Vx Q ac q) (hr : gm_Vx Q ac r)
    (tp : gm_ev a p = 0 ∧ gm_ev b p = 0) (tq : gm_ev a q = 0 ∧ gm_ev b q = 0) (tr : gm_ev a r = 0 ∧ gm_ev b r = 0)
    (npq : ¬ gm_pr p q) (nqr : ¬ gm_pr q r) (nrp : ¬ gm_pr r p) : False := by
  have T := gm_tie hc tp tq tr
  have n1 := fun h => nqr (gm_tie0 hc tq tr h)
  have n2 := fun h => nrp (gm_tie0 hc tr tp h)
  have n3 := fun h => npq (gm_tie0 hc tp tq h)
  have hw : (gm_ev (gm_cr a b) q * r.2.2.2 - gm_ev (gm_cr a b) r * q.2.2.2) * p.2.2.2 + (gm_ev (gm_cr a b) r * p.2.2.2 - gm_ev (gm_cr a b) p * r.2.2.2) * q.2.2.2
      + (gm_ev (gm_cr a b) p * q.2.2.2 - gm_ev (gm_cr a b) q * p.2.2.2) * r.2.2.2 = 0 := by grind
  generalize gm_ev (gm_cr a b) q * r.2.2.2 - gm_ev (gm_cr a b) r * q.2.2.2 = al at *
  generalize gm_ev (gm_cr a b) r * p.2.2.2 - gm_ev (gm_cr a b) p * r.2.2.2 = be at *
  generalize gm_ev (gm_cr a b) p * q.2.2.2 - gm_ev (gm_cr a b) q * p.2.2.2 = ga at *
  have wp := hp.1
  have wq := hq.1
  have wr := hr.1
  have m1 : al ≠ 0 := n1
  have m2 : be ≠ 0 := n2
  have m3 : ga ≠ 0 := n3
  by_cases c1 : (0 < al ∧ 0 < be) ∨ (al < 0 ∧ be < 0)
  · exact nrp (gm_pr_symm (gm_mid2 hr hp.2.1 hq.2.1 c1 T).1)
  · by_cases c2 : (0 < be ∧ 0 < ga) ∨ (be < 0 ∧ ga < 0)
    · exact npq (gm_pr_symm (gm_mid2 hp hq.2.1 hr.2.1 c2 (gm_rot T)).1)
    · have c3 : (0 < ga ∧ 0 < al) ∨ (ga < 0 ∧ al < 0) := by omega
      exact nqr (gm_pr_symm (gm_mid2 hq hr.2.1 hp.2.1 c3 (gm_rot (gm_rot T))).1)

theorem gm_cr_perp {a e : gm_V} (ha : ¬ (a.1 = 0 ∧ a.2.1 = 0 ∧ a.2.2.1 = 0)) (hw : e.2.2.2 = 0) (h0 : gm_ev a e = 0) (hc : gm_cr a e = (0, 0, 0, 0)) :
    e = (0, 0, 0, 0) := by
  obtain ⟨a1, a2, a3, a4⟩ := a
  obtain ⟨x, y, z, w⟩ := e
  dsimp only at hw ha
  subst hw
  simp only [gm_ev, gm_cr, Prod.mk.injEq] at h0 hc
  obtain ⟨h1, h2, h3, _⟩ := hc
  have hs : a1 * a1 + a2 * a2 + a3 * a3 ≠ 0 := fun h => ha (gm_sq _ _ _ h)
  have ex : (a1 * a1 + a2 * a2 + a3 * a3) * x = 0 := by grind
  have ey : (a1 * a1 + a2 * a2 + a3 * a3) * y = 0 := by grind
  have ez : (a1 * a1 + a2 * a2 + a3 * a3) * z = 0 := by grind
  rw [(Int.mul_eq_zero.mp ex).resolve_left hs, (Int.mul_eq_zero.mp ey).resolve_left hs, (Int.mul_eq_zero.mp ez).resolve_left hs]

theorem gm_ev_cr0 {a b c : gm_V} (h : gm_cr a b = (0, 0, 0, 0)) : gm_ev b (gm_cr a c) = 0 := by
  simp only [gm_cr, Prod.mk.injEq] at h
  obtain ⟨h1, h2, h3, _⟩ := h
  simp only [gm_ev, gm_cr]; grind
theorem gm_ev_cra (a c : gm_V) : gm_ev a (gm_cr a c) = 0 := by simp only [gm_ev, gm_cr]; grind
theorem gm_ev_crb {a c : gm_V} (hc : c.2.2.2 = 0) : gm_ev c (gm_cr a c) = 0 := by simp only [gm_ev, gm_cr]; grind
theorem gm_ev_sym {a c : gm_V} (ha : a.2.2.2 = 0) (hc : c.2.2.2 = 0) : gm_ev c a = gm_ev a c := by simp only [gm_ev, ha, hc]; grind

/-- two corners whose common planes do not cross share them with a third corner -/
theorem gm_third {Q : Nat → gm_V} {ac : Nat → Prop} {n : Nat} (hac : ∀ i, ac i → i < n) (hB : gm_Bd Q ac) {v u : gm_V}
    (hv : gm_Vx Q ac v) (hu : gm_Vx Q ac u) (hne : ¬ gm_pr v u)
    (hS : ∀ i j, ac i → ac j → gm_ev (Q i) v = 0 → gm_ev (Q i) u = 0 → gm_ev (Q j) v = 0 → gm_ev (Q j) u = 0 → gm_cr (Q i) (Q j) = (0, 0, 0, 0)) :
    ∃ t, gm_Vx Q ac t ∧ (∀ i, ac i → gm_ev (Q i) v = 0 → gm_ev (Q i) u = 0 → gm_ev (Q i) t = 0) ∧ ¬ gm_pr t v ∧ ¬ gm_pr t u := by
  have hD : gm_lc u.2.2.2 v (-v.2.2.2) u ≠ (0, 0, 0, 0) := fun h => hne (gm_pr_of h)
  have hDw : (gm_lc u.2.2.2 v (-v.2.2.2) u).2.2.2 = 0 := by rw [gm_w_lc]; grind
  have hDe : ∀ i, gm_ev (Q i) v = 0 → gm_ev (Q i) u = 0 → gm_ev (Q i) (gm_lc u.2.2.2 v (-v.2.2.2) u) = 0 := by
    intro i h1 h2
    rw [gm_ev_lc, h1, h2]; simp
  have hE : ∃ e : gm_V, e.2.2.2 = 0 ∧ e ≠ (0, 0, 0, 0) ∧ gm_ev e (gm_lc u.2.2.2 v (-v.2.2.2) u) = 0 ∧
      ∀ i, ac i → gm_ev (Q i) v = 0 → gm_ev (Q i) u = 0 → gm_ev (Q i) e = 0 := by
    generalize gm_lc u.2.2.2 v (-v.2.2.2) u = D at *
    by_cases hz : ∃ i, ac i ∧ gm_ev (Q i) v = 0 ∧ gm_ev (Q i) u = 0 ∧ ¬ ((Q i).1 = 0 ∧ (Q i).2.1 = 0 ∧ (Q i).2.2.1 = 0)
    · obtain ⟨i, hi, h1, h2, hn⟩ := hz
      refine ⟨gm_cr (Q i) D, rfl, fun h => hD (gm_cr_perp hn hDw (hDe i h1 h2) h), ?_, fun j hj h3 h4 => ?_⟩
      · rw [gm_ev_sym hDw rfl]; exact gm_ev_crb hDw
      · exact gm_ev_cr0 (hS i j hi hj h1 h2 h3 h4)
    · obtain ⟨e, h1, h2, h3, _⟩ := gm_perp D
      refine ⟨e, h1, h2, ?_, fun j hj h4 h5 => ?_⟩
      · rw [gm_ev_sym hDw h1]; exact h3
      · have : (Q j).1 = 0 ∧ (Q j).2.1 = 0 ∧ (Q j).2.2.1 = 0 := Classical.byContradiction fun hn => hz ⟨j, hj, h4, h5, hn⟩
        simp [gm_ev, this.1, this.2.1, this.2.2, h1]
  obtain ⟨e, he0, hez, heD, hek⟩ := hE
  have hm : gm_In Q ac (gm_lc 1 v 1 u) := by
    intro i hi
    have a := hv.2.1 i hi
    have b := hu.2.1 i hi
    rw [gm_ev_lc]; omega
  have hmw : (gm_lc 1 v 1 u).2.2.2 = v.2.2.2 + u.2.2.2 := by rw [gm_w_lc]; omega
  obtain ⟨i, hi, hpos, hin⟩ := gm_move hac hB hm he0 hez
  have hiv := hv.2.1 i hi
  have hiu := hu.2.1 i hi
  have him : gm_ev (Q i) (gm_lc 1 v 1 u) = gm_ev (Q i) v + gm_ev (Q i) u := by rw [gm_ev_lc]; omega
  have hneg : 0 < -gm_ev (Q i) (gm_lc 1 v 1 u) := by
    rcases Int.lt_or_le 0 (-gm_ev (Q i) (gm_lc 1 v 1 u)) with h | h
    · exact h
    · have := hek i hi (by omega) (by omega)
      omega
  have hvw := hv.1
  have huw := hu.1
  have hxw : (gm_lc (gm_ev (Q i) e) (gm_lc 1 v 1 u) (-gm_ev (Q i) (gm_lc 1 v 1 u)) e).2.2.2 = gm_ev (Q i) e * (v.2.2.2 + u.2.2.2) := by
    rw [gm_w_lc, hmw, he0]; simp
  obtain ⟨t, ht, hT, hle⟩ := gm_lp' hac hB e _ hin (by rw [hxw]; exact gm_pp hpos (by omega))
  refine ⟨t, ht, fun j hj h1 h2 => hT j hj ?_, ?_⟩
  · rw [gm_ev_lc, gm_ev_lc, h1, h2, hek j hj h1 h2]; simp
  · have hee := gm_self he0 hez
    have htw := ht.1
    rw [hxw, gm_ev_lc] at hle
    have hem : gm_ev e (gm_lc 1 v 1 u) = gm_ev e v + gm_ev e u := by rw [gm_ev_lc]; omega
    have heD' : u.2.2.2 * gm_ev e v = v.2.2.2 * gm_ev e u := by
      rw [gm_ev_lc] at heD
      have e3 : -v.2.2.2 * gm_ev e u = -(v.2.2.2 * gm_ev e u) := by grind
      omega
    have hlt : (gm_ev e v + gm_ev e u) * t.2.2.2 < gm_ev e t * (v.2.2.2 + u.2.2.2) := by
      apply gm_mul_cancel_lt hpos
      have e1 : gm_ev e t * (gm_ev (Q i) e * (v.2.2.2 + u.2.2.2)) = gm_ev (Q i) e * (gm_ev e t * (v.2.2.2 + u.2.2.2)) := by grind
      have e2 : (gm_ev (Q i) e * gm_ev e (gm_lc 1 v 1 u) + -gm_ev (Q i) (gm_lc 1 v 1 u) * gm_ev e e) * t.2.2.2
        = gm_ev (Q i) e * ((gm_ev e v + gm_ev e u) * t.2.2.2) + -gm_ev (Q i) (gm_lc 1 v 1 u) * gm_ev e e * t.2.2.2 := by rw [hem]; grind
      have h6 : 0 < -gm_ev (Q i) (gm_lc 1 v 1 u) * gm_ev e e * t.2.2.2 := gm_pp (gm_pp hneg hee) htw
      rw [e1, e2] at hle
      omega
    constructor
    · intro hp
      have h7 := gm_pr_ev hp e
      have h8 := Int.mul_lt_mul_of_pos_left hlt hvw
      have e4 : v.2.2.2 * ((gm_ev e v + gm_ev e u) * t.2.2.2) = v.2.2.2 * (gm_ev e t * (v.2.2.2 + u.2.2.2)) := by grind
      omega
    · intro hp
      have h7 := gm_pr_ev hp e
      have h8 := Int.mul_lt_mul_of_pos_left hlt huw
      have e4 : u.2.2.2 * ((gm_ev e v + gm_ev e u) * t.2.2.2) = u.2.2.2 * (gm_ev e t * (v.2.2.2 + u.2.2.2)) := by grind
      omega
end
