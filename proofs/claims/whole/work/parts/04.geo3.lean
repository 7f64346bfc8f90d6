/-! A better neighbour; each corner is first or last in one of its planes -/
section
theorem gm_tilt {Q : Nat → gm_V} {ac : Nat → Prop} {n : Nat} (hac : ∀ i, ac i → i < n) {v d e f : gm_V}
    (hd0 : d.2.2.2 = 0) (hd : ∀ j, ac j → gm_ev (Q j) v = 0 → gm_ev (Q j) d ≤ 0) (hf : 0 < gm_ev f d)
    (he0 : e.2.2.2 = 0) (hfe : 0 ≤ gm_ev f e) (hS : ∀ j, ac j → gm_ev (Q j) v = 0 → gm_ev (Q j) d = 0 → gm_ev (Q j) e = 0)
    (hex : ∃ j, ac j ∧ gm_ev (Q j) v = 0 ∧ 0 < gm_ev (Q j) e) :
    ∃ d' : gm_V, d'.2.2.2 = 0 ∧ (∀ j, ac j → gm_ev (Q j) v = 0 → gm_ev (Q j) d' ≤ 0) ∧ 0 < gm_ev f d' ∧
      (∀ j, ac j → gm_ev (Q j) v = 0 → gm_ev (Q j) d = 0 → gm_ev (Q j) d' = 0) ∧
      ∃ j, ac j ∧ gm_ev (Q j) v = 0 ∧ gm_ev (Q j) d' = 0 ∧ gm_ev (Q j) d ≠ 0 := by
  obtain ⟨j0, hj0⟩ := hex
  obtain ⟨i, _, ⟨hi, hiv, hpos⟩, hm⟩ := gm_min (fun i => -gm_ev (Q i) d) (fun i => gm_ev (Q i) e)
    (fun j => ac j ∧ gm_ev (Q j) v = 0 ∧ 0 < gm_ev (Q j) e) n (fun i _ h => h.2.2) ⟨j0, hac j0 hj0.1, hj0⟩
  have hdi := hd i hi hiv
  refine ⟨gm_lc (gm_ev (Q i) e) d (-gm_ev (Q i) d) e, ?_, fun j hj hv => ?_, ?_, fun j hj hv hz => ?_, i, hi, hiv, ?_, ?_⟩
  · rw [gm_w_lc, hd0, he0]; simp
  · rw [gm_ev_lc]
    have hdj := hd j hj hv
    rcases Int.lt_or_le 0 (gm_ev (Q j) e) with h1 | h1
    · have h2 := hm j (hac j hj) ⟨hj, hv, h1⟩
      have e1 : gm_ev (Q i) e * gm_ev (Q j) d = -(-gm_ev (Q j) d * gm_ev (Q i) e) := by grind
      rw [e1]; omega
    · have h2 := gm_np (Int.le_of_lt hpos) hdj
      have h3 := gm_np (a := -gm_ev (Q i) d) (by omega) h1
      omega
  · rw [gm_ev_lc]
    have h1 := gm_pp hpos hf
    have h2 := gm_nn (a := -gm_ev (Q i) d) (by omega) hfe
    omega
  · rw [gm_ev_lc, hz, hS j hj hv hz]; simp
  · rw [gm_ev_lc]; grind
  · intro hz
    have := hS i hi hiv hz
    omega

theorem gm_dt0 {s a b c : gm_V} (hs : ¬ (s.1 = 0 ∧ s.2.1 = 0 ∧ s.2.2.1 = 0)) (ha : gm_cr s a = (0, 0, 0, 0)) (hb : gm_cr s b = (0, 0, 0, 0)) :
    gm_dt a b c = 0 := by
  obtain ⟨s1, s2, s3, s4⟩ := s
  obtain ⟨a1, a2, a3, a4⟩ := a
  obtain ⟨b1, b2, b3, b4⟩ := b
  obtain ⟨c1, c2, c3, c4⟩ := c
  simp only [gm_cr, gm_dt, Prod.mk.injEq] at *
  obtain ⟨x1, x2, x3, _⟩ := ha
  obtain ⟨y1, y2, y3, _⟩ := hb
  have hq : s1 * s1 + s2 * s2 + s3 * s3 ≠ 0 := fun h => hs (gm_sq _ _ _ h)
  have k1 : (s1 * s1 + s2 * s2 + s3 * s3) * (a2 * b3 - a3 * b2) = 0 := by grind
  have k2 : (s1 * s1 + s2 * s2 + s3 * s3) * (a1 * b3 - a3 * b1) = 0 := by grind
  have k3 : (s1 * s1 + s2 * s2 + s3 * s3) * (a1 * b2 - a2 * b1) = 0 := by grind
  have l1 := (Int.mul_eq_zero.mp k1).resolve_left hq
  have l2 := (Int.mul_eq_zero.mp k2).resolve_left hq
  have l3 := (Int.mul_eq_zero.mp k3).resolve_left hq
  grind

theorem gm_dir {Q : Nat → gm_V} {ac : Nat → Prop} {n : Nat} (hac : ∀ i, ac i → i < n) {v d f : gm_V} (hv : gm_Vx Q ac v)
    (hd0 : d.2.2.2 = 0) (hd : ∀ j, ac j → gm_ev (Q j) v = 0 → gm_ev (Q j) d ≤ 0) (hf : 0 < gm_ev f d)
    (hS : ∀ i j, ac i → ac j → gm_ev (Q i) v = 0 → gm_ev (Q i) d = 0 → gm_ev (Q j) v = 0 → gm_ev (Q j) d = 0 → gm_cr (Q i) (Q j) = (0, 0, 0, 0)) :
    ∃ d' : gm_V, d'.2.2.2 = 0 ∧ (∀ j, ac j → gm_ev (Q j) v = 0 → gm_ev (Q j) d' ≤ 0) ∧ 0 < gm_ev f d' ∧
      (∀ j, ac j → gm_ev (Q j) v = 0 → gm_ev (Q j) d = 0 → gm_ev (Q j) d' = 0) ∧
      ∃ j, ac j ∧ gm_ev (Q j) v = 0 ∧ gm_ev (Q j) d' = 0 ∧ gm_ev (Q j) d ≠ 0 := by
  obtain ⟨_, _, i1, i2, i3, h1, h2, h3, hdt, e1, e2, e3⟩ := hv
  have hE : ∃ (i : Nat) (e : gm_V), (ac i ∧ gm_ev (Q i) v = 0 ∧ gm_ev (Q i) d ≠ 0) ∧ e.2.2.2 = 0 ∧ e ≠ (0, 0, 0, 0) ∧ gm_ev (Q i) e = 0 ∧
      ∀ j, ac j → gm_ev (Q j) v = 0 → gm_ev (Q j) d = 0 → gm_ev (Q j) e = 0 := by
    by_cases hz : ∃ s, ac s ∧ gm_ev (Q s) v = 0 ∧ gm_ev (Q s) d = 0 ∧ ¬ ((Q s).1 = 0 ∧ (Q s).2.1 = 0 ∧ (Q s).2.2.1 = 0)
    · obtain ⟨s, hs, sv, sd, sn⟩ := hz
      have hi : ∃ i, ac i ∧ gm_ev (Q i) v = 0 ∧ gm_cr (Q s) (Q i) ≠ (0, 0, 0, 0) := by
        by_cases c1 : gm_cr (Q s) (Q i1) = (0, 0, 0, 0)
        · by_cases c2 : gm_cr (Q s) (Q i2) = (0, 0, 0, 0)
          · exact absurd (gm_dt0 sn c1 c2) hdt
          · exact ⟨i2, h2, e2, c2⟩
        · exact ⟨i1, h1, e1, c1⟩
      obtain ⟨i, hi, iv, ic⟩ := hi
      refine ⟨i, gm_cr (Q s) (Q i), ⟨hi, iv, fun h => ic (hS s i hs hi sv sd iv h)⟩, rfl, ic, ?_, fun j hj jv jd => gm_ev_cr0 (hS s j hs hj sv sd jv jd)⟩
      simp only [gm_ev, gm_cr]; grind
    · have hz' : ∀ s, ac s → gm_ev (Q s) v = 0 → gm_ev (Q s) d = 0 → (Q s).1 = 0 ∧ (Q s).2.1 = 0 ∧ (Q s).2.2.1 = 0 := fun s a b c =>
        Classical.byContradiction fun hn => hz ⟨s, a, b, c, hn⟩
      obtain ⟨e, k1, k2, k3, _⟩ := gm_perp (Q i1)
      refine ⟨i1, e, ⟨h1, e1, fun h => hdt ?_⟩, k1, k2, k3, fun j hj jv jd => ?_⟩
      · obtain ⟨z1, z2, z3⟩ := hz' i1 h1 e1 h
        simp [gm_dt, z1, z2, z3]
      · obtain ⟨z1, z2, z3⟩ := hz' j hj jv jd
        simp [gm_ev, z1, z2, z3, k1]
  obtain ⟨i, e, ⟨hi, iv, id⟩, he0, hez, hie, heS⟩ := hE
  have hnz : ∀ e : gm_V, e.2.2.2 = 0 → e ≠ (0, 0, 0, 0) → ∃ j, ac j ∧ gm_ev (Q j) v = 0 ∧ gm_ev (Q j) e ≠ 0 := by
    intro e he0 hez
    by_cases c1 : gm_ev (Q i1) e = 0
    · by_cases c2 : gm_ev (Q i2) e = 0
      · by_cases c3 : gm_ev (Q i3) e = 0
        · exact absurd (gm_cramer hdt he0 c1 c2 c3) hez
        · exact ⟨i3, h3, e3, c3⟩
      · exact ⟨i2, h2, e2, c2⟩
    · exact ⟨i1, h1, e1, c1⟩
  -- the sign of e
  have hmain : ∀ e : gm_V, e.2.2.2 = 0 → e ≠ (0, 0, 0, 0) → gm_ev (Q i) e = 0 →
      (∀ j, ac j → gm_ev (Q j) v = 0 → gm_ev (Q j) d = 0 → gm_ev (Q j) e = 0) → 0 ≤ gm_ev f e →
      ∃ d' : gm_V, d'.2.2.2 = 0 ∧ (∀ j, ac j → gm_ev (Q j) v = 0 → gm_ev (Q j) d' ≤ 0) ∧ 0 < gm_ev f d' ∧
      (∀ j, ac j → gm_ev (Q j) v = 0 → gm_ev (Q j) d = 0 → gm_ev (Q j) d' = 0) ∧
      ∃ j, ac j ∧ gm_ev (Q j) v = 0 ∧ gm_ev (Q j) d' = 0 ∧ gm_ev (Q j) d ≠ 0 := by
    intro e he0 hez hie heS hfe
    by_cases hx : ∃ j, ac j ∧ gm_ev (Q j) v = 0 ∧ 0 < gm_ev (Q j) e
    · exact gm_tilt hac hd0 hd hf he0 hfe heS hx
    · have hall : ∀ j, ac j → gm_ev (Q j) v = 0 → gm_ev (Q j) e ≤ 0 := by
        intro j hj jv
        rcases Int.lt_or_le 0 (gm_ev (Q j) e) with h | h
        · exact absurd ⟨j, hj, jv, h⟩ hx
        · exact h
      rcases Int.lt_or_le 0 (gm_ev f e) with h | h
      · exact ⟨e, he0, hall, h, heS, i, hi, iv, hie, id⟩
      · obtain ⟨j, hj, jv, jn⟩ := hnz e he0 hez
        have := hall j hj jv
        refine gm_tilt hac hd0 hd hf (e := gm_lc (-1) e 0 e) (gm_neg_w he0) ?_ (fun k hk kv kd => ?_) ⟨j, hj, jv, ?_⟩
        · rw [gm_neg_ev]; omega
        · rw [gm_neg_ev, heS k hk kv kd]; rfl
        · rw [gm_neg_ev]; omega
  rcases Int.lt_or_le (gm_ev f e) 0 with h | h
  · refine hmain (gm_lc (-1) e 0 e) (gm_neg_w he0) (gm_neg_nz hez) ?_ (fun j hj jv jd => ?_) ?_
    · rw [gm_neg_ev, hie]; rfl
    · rw [gm_neg_ev, heS j hj jv jd]; rfl
    · rw [gm_neg_ev]; omega
  · exact hmain e he0 hez hie heS h

/-- a corner that is not farthest along f has a neighbour that is farther -/
theorem gm_up {Q : Nat → gm_V} {ac : Nat → Prop} {n : Nat} (hac : ∀ i, ac i → i < n) (hB : gm_Bd Q ac) (f : gm_V) {v : gm_V} (hv : gm_Vx Q ac v) :
    ∀ (m : Nat) (u : gm_V), gm_Vx Q ac u → gm_ev f v * u.2.2.2 < gm_ev f u * v.2.2.2 →
    gm_cn (fun i => ¬ (ac i ∧ gm_ev (Q i) v = 0 ∧ gm_ev (Q i) u = 0)) n ≤ m →
    ∃ t, gm_Vx Q ac t ∧ gm_ev f v * t.2.2.2 < gm_ev f t * v.2.2.2 ∧ ∃ i j, ac i ∧ ac j ∧ gm_ev (Q i) v = 0 ∧ gm_ev (Q i) t = 0 ∧
      gm_ev (Q j) v = 0 ∧ gm_ev (Q j) t = 0 ∧ gm_cr (Q i) (Q j) ≠ (0, 0, 0, 0) := by
  have step : ∀ u : gm_V, gm_Vx Q ac u → gm_ev f v * u.2.2.2 < gm_ev f u * v.2.2.2 →
      (∀ i j, ac i → ac j → gm_ev (Q i) v = 0 → gm_ev (Q i) u = 0 → gm_ev (Q j) v = 0 → gm_ev (Q j) u = 0 → gm_cr (Q i) (Q j) = (0, 0, 0, 0)) →
      ∃ t, gm_Vx Q ac t ∧ gm_ev f v * t.2.2.2 < gm_ev f t * v.2.2.2 ∧
        gm_cn (fun i => ¬ (ac i ∧ gm_ev (Q i) v = 0 ∧ gm_ev (Q i) t = 0)) n < gm_cn (fun i => ¬ (ac i ∧ gm_ev (Q i) v = 0 ∧ gm_ev (Q i) u = 0)) n := by
    intro u hu hlt hS
    have hvw := hv.1
    have huw := hu.1
    have hde : ∀ j, gm_ev (Q j) v = 0 → gm_ev (Q j) (gm_lc v.2.2.2 u (-u.2.2.2) v) = v.2.2.2 * gm_ev (Q j) u := by
      intro j h
      rw [gm_ev_lc, h]; simp
    have hd0 : (gm_lc v.2.2.2 u (-u.2.2.2) v).2.2.2 = 0 := by rw [gm_w_lc]; grind
    have hdz : ∀ j, gm_ev (Q j) v = 0 → gm_ev (Q j) (gm_lc v.2.2.2 u (-u.2.2.2) v) = 0 → gm_ev (Q j) u = 0 := by
      intro j h1 h2
      rw [hde j h1] at h2
      exact (Int.mul_eq_zero.mp h2).resolve_left (by omega)
    have hd : ∀ j, ac j → gm_ev (Q j) v = 0 → gm_ev (Q j) (gm_lc v.2.2.2 u (-u.2.2.2) v) ≤ 0 := by
      intro j hj h
      rw [hde j h]
      exact gm_np (Int.le_of_lt hvw) (hu.2.1 j hj)
    have hf : 0 < gm_ev f (gm_lc v.2.2.2 u (-u.2.2.2) v) := by
      rw [gm_ev_lc]
      have e1 : v.2.2.2 * gm_ev f u + -u.2.2.2 * gm_ev f v = gm_ev f u * v.2.2.2 - gm_ev f v * u.2.2.2 := by grind
      omega
    obtain ⟨d, d0, dT, df, dS, i, hi, iv, id, inz⟩ := gm_dir hac hv hd0 hd hf
      (fun i j hi hj a b c e => hS i j hi hj a (hdz i a b) c (hdz j c e))
    have dnz : d ≠ (0, 0, 0, 0) := by
      intro e
      rw [e] at df
      simp [gm_ev] at df
    obtain ⟨k, hk, kpos, kin⟩ := gm_move hac hB hv.2.1 d0 dnz
    have kv := hv.2.1 k hk
    have kneg : 0 < -gm_ev (Q k) v := by
      rcases Int.lt_or_le 0 (-gm_ev (Q k) v) with h | h
      · exact h
      · have := dT k hk (by omega)
        omega
    have hxw : (gm_lc (gm_ev (Q k) d) v (-gm_ev (Q k) v) d).2.2.2 = gm_ev (Q k) d * v.2.2.2 := by
      rw [gm_w_lc, d0]; simp
    obtain ⟨t, ht, hT, hle⟩ := gm_lp' hac hB f _ kin (by rw [hxw]; exact gm_pp kpos hvw)
    have htw := ht.1
    have keep : ∀ j, ac j → gm_ev (Q j) v = 0 → gm_ev (Q j) d = 0 → gm_ev (Q j) t = 0 := by
      intro j hj h1 h2
      apply hT j hj
      rw [gm_ev_lc, h1, h2]; simp
    refine ⟨t, ht, ?_, ?_⟩
    · rw [hxw, gm_ev_lc] at hle
      apply gm_mul_cancel_lt kpos
      have e1 : (gm_ev (Q k) d * gm_ev f v + -gm_ev (Q k) v * gm_ev f d) * t.2.2.2
        = gm_ev (Q k) d * (gm_ev f v * t.2.2.2) + -gm_ev (Q k) v * gm_ev f d * t.2.2.2 := by grind
      have e2 : gm_ev f t * (gm_ev (Q k) d * v.2.2.2) = gm_ev (Q k) d * (gm_ev f t * v.2.2.2) := by grind
      have h6 : 0 < -gm_ev (Q k) v * gm_ev f d * t.2.2.2 := gm_pp (gm_pp kneg df) htw
      rw [e1, e2] at hle
      omega
    · refine gm_cn_lt n (fun j _ h => ?_) ⟨i, hac i hi, fun h => inz ?_, fun h => h ⟨hi, iv, keep i hi iv id⟩⟩
      · intro h2
        refine h ⟨h2.1, h2.2.1, keep j h2.1 h2.2.1 (dS j h2.1 h2.2.1 ?_)⟩
        rw [hde j h2.2.1, h2.2.2]; simp
      · rw [hde i iv, h.2.2]; simp
  intro m
  induction m with
  | zero =>
    intro u hu hlt hm
    by_cases hx : ∃ i j, ac i ∧ ac j ∧ gm_ev (Q i) v = 0 ∧ gm_ev (Q i) u = 0 ∧ gm_ev (Q j) v = 0 ∧ gm_ev (Q j) u = 0 ∧ gm_cr (Q i) (Q j) ≠ (0, 0, 0, 0)
    · exact ⟨u, hu, hlt, hx⟩
    · obtain ⟨t, _, _, h⟩ := step u hu hlt (fun i j hi hj a b c e => Classical.byContradiction fun hn => hx ⟨i, j, hi, hj, a, b, c, e, hn⟩)
      omega
  | succ m ih =>
    intro u hu hlt hm
    by_cases hx : ∃ i j, ac i ∧ ac j ∧ gm_ev (Q i) v = 0 ∧ gm_ev (Q i) u = 0 ∧ gm_ev (Q j) v = 0 ∧ gm_ev (Q j) u = 0 ∧ gm_cr (Q i) (Q j) ≠ (0, 0, 0, 0)
    · exact ⟨u, hu, hlt, hx⟩
    · obtain ⟨t, ht, htl, h⟩ := step u hu hlt (fun i j hi hj a b c e => Classical.byContradiction fun hn => hx ⟨i, j, hi, hj, a, b, c, e, hn⟩)
      exact ih t ht htl (by omega)

/-- a wedge of a plane through a corner: its mean in the level of h is beyond none and in the first alone -/
theorem gm_wedge {a b c h P R : gm_V} (hd : gm_dt a b c ≠ 0) (pw : P.2.2.2 = 0) (rw0 : R.2.2.2 = 0) (ap : gm_ev a P = 0) (ar : gm_ev a R = 0)
    (bp : gm_ev b P ≤ 0) (br : gm_ev b R ≤ 0) (cp : gm_ev c P ≤ 0) (cr : gm_ev c R ≤ 0) (hp : 0 < gm_ev h P) (hr : gm_ev h R < 0) :
    gm_ev b (gm_lc (-gm_ev h R) P (gm_ev h P) R) < 0 := by
  rw [gm_ev_lc]
  have t1 := gm_np (a := -gm_ev h R) (by omega) bp
  have t2 := gm_np (Int.le_of_lt hp) br
  rcases Int.lt_or_le (-gm_ev h R * gm_ev b P + gm_ev h P * gm_ev b R) 0 with g | g
  · exact g
  · exfalso
    have z1 : -gm_ev h R * gm_ev b P = 0 := by omega
    have z2 : gm_ev h P * gm_ev b R = 0 := by omega
    have y1 := (Int.mul_eq_zero.mp z1).resolve_left (by omega)
    have y2 := (Int.mul_eq_zero.mp z2).resolve_left (by omega)
    have k : gm_lc (gm_ev c R) P (-gm_ev c P) R = (0, 0, 0, 0) := by
      apply gm_cramer hd
      · rw [gm_w_lc, pw, rw0]; simp
      · rw [gm_ev_lc, ap, ar]; simp
      · rw [gm_ev_lc, y1, y2]; simp
      · rw [gm_ev_lc]; grind
    have k2 : gm_ev h (gm_lc (gm_ev c R) P (-gm_ev c P) R) = 0 := by rw [k]; simp [gm_ev]
    rw [gm_ev_lc] at k2
    have e1 : gm_ev c R * gm_ev h P = gm_ev h P * gm_ev c R := by grind
    have e2 : -gm_ev c P * gm_ev h R = -gm_ev h R * gm_ev c P := by grind
    have s1 := gm_np (Int.le_of_lt hp) cr
    have s2 := gm_np (a := -gm_ev h R) (by omega) cp
    have z3 : -gm_ev h R * gm_ev c P = 0 := by omega
    have y3 := (Int.mul_eq_zero.mp z3).resolve_left (by omega)
    have := gm_cramer hd pw ap y1 y3
    rw [this] at hp
    simp [gm_ev] at hp

theorem gm_dtc (a b c : gm_V) : gm_dt b c a = gm_dt a b c := by simp only [gm_dt]; grind
theorem gm_dts (a b c : gm_V) : gm_dt a c b = -gm_dt a b c := by simp only [gm_dt]; grind

theorem gm_sign {c1 c2 c3 m12 m13 m21 m23 m31 m32 : Int} (h12 : m12 < 0) (h13 : m13 < 0) (h21 : m21 < 0) (h23 : m23 < 0) (h31 : m31 < 0) (h32 : m32 < 0)
    (e1 : c2 * m12 + c3 * m13 = 0) (e2 : c1 * m21 + c3 * m23 = 0) (e3 : c1 * m31 + c2 * m32 = 0) : c3 = 0 := by
  rcases Int.lt_trichotomy c3 0 with h | h | h
  · exfalso
    have a1 : 0 < c3 * m13 := Int.mul_pos_of_neg_of_neg h h13
    have a2 : 0 < c3 * m23 := Int.mul_pos_of_neg_of_neg h h23
    have b1 : 0 < c2 := by
      rcases Int.lt_or_le 0 c2 with g | g
      · exact g
      · have := Int.mul_nonneg_of_nonpos_of_nonpos g (Int.le_of_lt h12)
        omega
    have b2 : 0 < c1 := by
      rcases Int.lt_or_le 0 c1 with g | g
      · exact g
      · have := Int.mul_nonneg_of_nonpos_of_nonpos g (Int.le_of_lt h21)
        omega
    have d1 := gm_pn b2 h31
    have d2 := gm_pn b1 h32
    omega
  · exact h
  · exfalso
    have a1 := gm_pn h h13
    have a2 := gm_pn h h23
    have b1 : c2 < 0 := by
      rcases Int.lt_or_le c2 0 with g | g
      · exact g
      · have := gm_np g (Int.le_of_lt h12)
        omega
    have b2 : c1 < 0 := by
      rcases Int.lt_or_le c1 0 with g | g
      · exact g
      · have := gm_np g (Int.le_of_lt h21)
        omega
    have d1 := Int.mul_pos_of_neg_of_neg b2 h31
    have d2 := Int.mul_pos_of_neg_of_neg b1 h32
    omega

theorem gm_core {a b c u1 u2 u3 : gm_V} {h1 h2 : Int} (w1 : u1.2.2.2 = 0) (w2 : u2.2.2.2 = 0) (w3 : u3.2.2.2 = 0)
    (z1 : gm_ev (h1, h2, 1, 0) u1 = 0) (z2 : gm_ev (h1, h2, 1, 0) u2 = 0) (z3 : gm_ev (h1, h2, 1, 0) u3 = 0)
    (a1 : gm_ev a u1 = 0) (b2 : gm_ev b u2 = 0) (c3 : gm_ev c u3 = 0) (a2 : gm_ev a u2 < 0) (a3 : gm_ev a u3 < 0)
    (b1 : gm_ev b u1 < 0) (b3 : gm_ev b u3 < 0) (c1 : gm_ev c u1 < 0) (c2 : gm_ev c u2 < 0) : False := by
  obtain ⟨x1, y1, q1, p1⟩ := u1
  obtain ⟨x2, y2, q2, p2⟩ := u2
  obtain ⟨x3, y3, q3, p3⟩ := u3
  dsimp only at w1 w2 w3
  subst w1 w2 w3
  have e1 : q1 = -(h1 * x1 + h2 * y1) := by simp only [gm_ev] at z1; omega
  have e2 : q2 = -(h1 * x2 + h2 * y2) := by simp only [gm_ev] at z2; omega
  have e3 : q3 = -(h1 * x3 + h2 * y3) := by simp only [gm_ev] at z3; omega
  subst e1 e2 e3
  have T : ∀ g : gm_V, (x2 * y3 - y2 * x3) * gm_ev g (x1, y1, -(h1 * x1 + h2 * y1), 0) + (x3 * y1 - y3 * x1) * gm_ev g (x2, y2, -(h1 * x2 + h2 * y2), 0)
      + (x1 * y2 - y1 * x2) * gm_ev g (x3, y3, -(h1 * x3 + h2 * y3), 0) = 0 := by
    intro g
    simp only [gm_ev]; grind
  have Ta := T a
  have Tb := T b
  have Tc := T c
  rw [a1] at Ta
  rw [b2] at Tb
  rw [c3] at Tc
  have k := gm_sign (c1 := x2 * y3 - y2 * x3) (c2 := x3 * y1 - y3 * x1) (c3 := x1 * y2 - y1 * x2) a2 a3 b1 b3 c1 c2 (by omega) (by omega) (by omega)
  have X : gm_ev a (x2, y2, -(h1 * x2 + h2 * y2), 0) * x1 = gm_ev a (x1, y1, -(h1 * x1 + h2 * y1), 0) * x2 := by
    simp only [gm_ev]; grind
  have Y : gm_ev a (x2, y2, -(h1 * x2 + h2 * y2), 0) * y1 = gm_ev a (x1, y1, -(h1 * x1 + h2 * y1), 0) * y2 := by
    simp only [gm_ev]; grind
  rw [a1] at X Y
  have X1 : x1 = 0 := (Int.mul_eq_zero.mp (by omega : gm_ev a (x2, y2, -(h1 * x2 + h2 * y2), 0) * x1 = 0)).resolve_left (by omega)
  have Y1 : y1 = 0 := (Int.mul_eq_zero.mp (by omega : gm_ev a (x2, y2, -(h1 * x2 + h2 * y2), 0) * y1 = 0)).resolve_left (by omega)
  rw [X1, Y1] at b1
  simp [gm_ev] at b1
end
