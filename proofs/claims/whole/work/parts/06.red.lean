/-! Where three planes meet, in lowest terms -/
section
def gm_cp (a b c : gm_V) : gm_V :=
  (gm_dt (a.2.2.2, a.2.1, a.2.2.1, 0) (b.2.2.2, b.2.1, b.2.2.1, 0) (c.2.2.2, c.2.1, c.2.2.1, 0),
   gm_dt (a.1, a.2.2.2, a.2.2.1, 0) (b.1, b.2.2.2, b.2.2.1, 0) (c.1, c.2.2.2, c.2.2.1, 0),
   gm_dt (a.1, a.2.1, a.2.2.2, 0) (b.1, b.2.1, b.2.2.2, 0) (c.1, c.2.1, c.2.2.2, 0),
   gm_dt a b c)
theorem gm_cp_a (a b c : gm_V) : gm_ev a (gm_cp a b c) = 0 := by simp only [gm_ev, gm_cp, gm_dt]; grind
theorem gm_cp_b (a b c : gm_V) : gm_ev b (gm_cp a b c) = 0 := by simp only [gm_ev, gm_cp, gm_dt]; grind
theorem gm_cp_c (a b c : gm_V) : gm_ev c (gm_cp a b c) = 0 := by simp only [gm_ev, gm_cp, gm_dt]; grind

def gm_g4 (p : gm_V) : Nat := Nat.gcd (Nat.gcd (Nat.gcd p.2.2.2.natAbs p.1.natAbs) p.2.1.natAbs) p.2.2.1.natAbs
def gm_q (p : gm_V) : Int := if p.2.2.2 < 0 then -(gm_g4 p : Int) else (gm_g4 p : Int)
def gm_red (p : gm_V) : gm_V := (p.1.tdiv (gm_q p), p.2.1.tdiv (gm_q p), p.2.2.1.tdiv (gm_q p), p.2.2.2.tdiv (gm_q p))
theorem gm_g4_mul (k : Int) (p : gm_V) : gm_g4 (k * p.1, k * p.2.1, k * p.2.2.1, k * p.2.2.2) = k.natAbs * gm_g4 p := by
  simp only [gm_g4, Int.natAbs_mul, Nat.gcd_mul_left]
theorem gm_g4_pos {p : gm_V} (h : p.2.2.2 ≠ 0) : 0 < gm_g4 p := by
  apply Nat.pos_of_ne_zero
  intro e
  have h1 := Nat.eq_zero_of_gcd_eq_zero_left e
  have h2 := Nat.eq_zero_of_gcd_eq_zero_left h1
  have h3 := Nat.eq_zero_of_gcd_eq_zero_left h2
  omega
theorem gm_g4_dvd (p : gm_V) : (gm_g4 p : Int) ∣ p.1 ∧ (gm_g4 p : Int) ∣ p.2.1 ∧ (gm_g4 p : Int) ∣ p.2.2.1 ∧ (gm_g4 p : Int) ∣ p.2.2.2 := by
  have d4 : gm_g4 p ∣ p.2.2.1.natAbs := Nat.gcd_dvd_right _ _
  have c : gm_g4 p ∣ Nat.gcd (Nat.gcd p.2.2.2.natAbs p.1.natAbs) p.2.1.natAbs := Nat.gcd_dvd_left _ _
  have d3 : gm_g4 p ∣ p.2.1.natAbs := Nat.dvd_trans c (Nat.gcd_dvd_right _ _)
  have c2 : gm_g4 p ∣ Nat.gcd p.2.2.2.natAbs p.1.natAbs := Nat.dvd_trans c (Nat.gcd_dvd_left _ _)
  have d2 : gm_g4 p ∣ p.1.natAbs := Nat.dvd_trans c2 (Nat.gcd_dvd_right _ _)
  have d1 : gm_g4 p ∣ p.2.2.2.natAbs := Nat.dvd_trans c2 (Nat.gcd_dvd_left _ _)
  exact ⟨Int.ofNat_dvd_left.mpr d2, Int.ofNat_dvd_left.mpr d3, Int.ofNat_dvd_left.mpr d4, Int.ofNat_dvd_left.mpr d1⟩
theorem gm_q_dvd {p : gm_V} {x : Int} (h : (gm_g4 p : Int) ∣ x) : gm_q p ∣ x := by
  unfold gm_q
  split
  · exact Int.neg_dvd.mpr h
  · exact h
theorem gm_q_nz {p : gm_V} (h : p.2.2.2 ≠ 0) : gm_q p ≠ 0 := by
  have := gm_g4_pos h
  unfold gm_q
  split <;> omega
theorem gm_red_eq (p : gm_V) : p = (gm_q p * (gm_red p).1, gm_q p * (gm_red p).2.1, gm_q p * (gm_red p).2.2.1, gm_q p * (gm_red p).2.2.2) := by
  obtain ⟨d1, d2, d3, d4⟩ := gm_g4_dvd p
  have e1 := Int.mul_tdiv_cancel' (gm_q_dvd d1)
  have e2 := Int.mul_tdiv_cancel' (gm_q_dvd d2)
  have e3 := Int.mul_tdiv_cancel' (gm_q_dvd d3)
  have e4 := Int.mul_tdiv_cancel' (gm_q_dvd d4)
  simp only [gm_red]
  rw [e1, e2, e3, e4]
theorem gm_red_ev (a p : gm_V) : gm_ev a p = gm_q p * gm_ev a (gm_red p) := by
  have h := gm_red_eq p
  generalize gm_q p = q at *
  generalize gm_red p = r at *
  rw [h]
  simp only [gm_ev]; grind
theorem gm_red_w {p : gm_V} (h : p.2.2.2 ≠ 0) : 0 < (gm_red p).2.2.2 := by
  have e : p.2.2.2 = gm_q p * (gm_red p).2.2.2 := congrArg (fun v : gm_V => v.2.2.2) (gm_red_eq p)
  have hg := gm_g4_pos h
  rcases Int.lt_or_le 0 (gm_red p).2.2.2 with c | c
  · exact c
  · exfalso
    unfold gm_q at e
    split at e
    · have := Int.mul_nonneg_of_nonpos_of_nonpos (a := -(gm_g4 p : Int)) (by omega) c
      omega
    · have := gm_np (a := (gm_g4 p : Int)) (by omega) c
      omega
theorem gm_red_g {p : gm_V} (h : p.2.2.2 ≠ 0) : gm_g4 (gm_red p) = 1 := by
  have e := congrArg gm_g4 (gm_red_eq p)
  rw [gm_g4_mul] at e
  have hg := gm_g4_pos h
  have hq : (gm_q p).natAbs = gm_g4 p := by
    unfold gm_q
    split <;> omega
  rw [hq] at e
  have e2 : gm_g4 p * gm_g4 (gm_red p) = gm_g4 p * 1 := by omega
  exact Nat.eq_of_mul_eq_mul_left hg e2
theorem gm_red_0 {a p : gm_V} (h : p.2.2.2 ≠ 0) (h0 : gm_ev a p = 0) : gm_ev a (gm_red p) = 0 := by
  rw [gm_red_ev] at h0
  exact (Int.mul_eq_zero.mp h0).resolve_left (gm_q_nz h)

theorem gm_pr_eq {p q : gm_V} (h : gm_pr p q) (hp : 0 < p.2.2.2) (hq : 0 < q.2.2.2) (gp : gm_g4 p = 1) (gq : gm_g4 q = 1) : p = q := by
  have e1 := gm_g4_mul q.2.2.2 p
  have e2 := gm_g4_mul p.2.2.2 q
  obtain ⟨h1, h2, h3⟩ := h
  have k : (q.2.2.2 * p.1, q.2.2.2 * p.2.1, q.2.2.2 * p.2.2.1, q.2.2.2 * p.2.2.2) = (p.2.2.2 * q.1, p.2.2.2 * q.2.1, p.2.2.2 * q.2.2.1, p.2.2.2 * q.2.2.2) := by
    simp only [Prod.mk.injEq]
    refine ⟨?_, ?_, ?_, ?_⟩ <;> grind
  rw [k, e2, gp, gq] at e1
  have e : p.2.2.2 = q.2.2.2 := by omega
  obtain ⟨p1, p2, p3, p4⟩ := p
  obtain ⟨q1, q2, q3, q4⟩ := q
  dsimp only at *
  subst e
  have n : p4 ≠ 0 := by omega
  rw [Int.eq_of_mul_eq_mul_right n h1, Int.eq_of_mul_eq_mul_right n h2, Int.eq_of_mul_eq_mul_right n h3]

def gm_pt (a b c : gm_V) : gm_V := gm_red (gm_cp a b c)
def gm_Vt (Q : Nat → gm_V) (ac : Nat → Prop) (p : gm_V) : Prop := gm_Vx Q ac p ∧ gm_g4 p = 1

theorem gm_pt_vt {Q : Nat → gm_V} {ac : Nat → Prop} {i j k : Nat} (hi : ac i) (hj : ac j) (hk : ac k) (hd : gm_dt (Q i) (Q j) (Q k) ≠ 0)
    (hin : gm_In Q ac (gm_pt (Q i) (Q j) (Q k))) : gm_Vt Q ac (gm_pt (Q i) (Q j) (Q k)) := by
  have hw : (gm_cp (Q i) (Q j) (Q k)).2.2.2 ≠ 0 := hd
  exact ⟨⟨gm_red_w hw, hin, i, j, k, hi, hj, hk, hd, gm_red_0 hw (gm_cp_a _ _ _), gm_red_0 hw (gm_cp_b _ _ _), gm_red_0 hw (gm_cp_c _ _ _)⟩, gm_red_g hw⟩

theorem gm_pt_eq {Q : Nat → gm_V} {ac : Nat → Prop} {p : gm_V} {i j k : Nat} (hp : gm_Vt Q ac p) (hd : gm_dt (Q i) (Q j) (Q k) ≠ 0)
    (ei : gm_ev (Q i) p = 0) (ej : gm_ev (Q j) p = 0) (ek : gm_ev (Q k) p = 0) : p = gm_pt (Q i) (Q j) (Q k) := by
  have hw : (gm_cp (Q i) (Q j) (Q k)).2.2.2 ≠ 0 := hd
  exact gm_pr_eq (gm_uniq hd ei ej ek (gm_red_0 hw (gm_cp_a _ _ _)) (gm_red_0 hw (gm_cp_b _ _ _)) (gm_red_0 hw (gm_cp_c _ _ _)))
    hp.1.1 (gm_red_w hw) hp.2 (gm_red_g hw)

theorem gm_dtaa (a c : gm_V) : gm_dt a a c = 0 := by simp only [gm_dt]; grind
/-- three planes that meet in a point, in the order of their numbers -/
theorem gm_sorted {Q : Nat → gm_V} {P : Nat → Prop} {i j k : Nat} (hi : P i) (hj : P j) (hk : P k) (hd : gm_dt (Q i) (Q j) (Q k) ≠ 0) :
    ∃ a b c, a < b ∧ b < c ∧ P a ∧ P b ∧ P c ∧ gm_dt (Q a) (Q b) (Q c) ≠ 0 := by
  have n1 : i ≠ j := fun e => hd (by rw [e]; exact gm_dtaa _ _)
  have n2 : j ≠ k := fun e => hd (by rw [e, ← gm_dtc, gm_dtaa])
  have n3 : i ≠ k := fun e => hd (by rw [e, gm_dts, gm_dtaa]; rfl)
  have d2 : gm_dt (Q i) (Q k) (Q j) ≠ 0 := by rw [gm_dts]; omega
  have d3 : gm_dt (Q j) (Q k) (Q i) ≠ 0 := by rw [gm_dtc]; exact hd
  have d4 : gm_dt (Q j) (Q i) (Q k) ≠ 0 := by rw [gm_dts, gm_dtc]; omega
  have d5 : gm_dt (Q k) (Q i) (Q j) ≠ 0 := by rw [gm_dtc, gm_dtc]; exact hd
  have d6 : gm_dt (Q k) (Q j) (Q i) ≠ 0 := by rw [gm_dts, gm_dtc, gm_dtc]; omega
  rcases Nat.lt_or_ge i j with a | a
  · rcases Nat.lt_or_ge j k with b | b
    · exact ⟨i, j, k, a, b, hi, hj, hk, hd⟩
    · rcases Nat.lt_or_ge i k with c | c
      · exact ⟨i, k, j, c, by omega, hi, hk, hj, d2⟩
      · exact ⟨k, i, j, by omega, a, hk, hi, hj, d5⟩
  · rcases Nat.lt_or_ge i k with b | b
    · exact ⟨j, i, k, by omega, b, hj, hi, hk, d4⟩
    · rcases Nat.lt_or_ge j k with c | c
      · exact ⟨j, k, i, c, by omega, hj, hk, hi, d3⟩
      · exact ⟨k, j, i, by omega, by omega, hk, hj, hi, d6⟩

theorem gm_vt_pt {Q : Nat → gm_V} {ac : Nat → Prop} {p : gm_V} (hp : gm_Vt Q ac p) :
    ∃ i j k, i < j ∧ j < k ∧ ac i ∧ ac j ∧ ac k ∧ gm_dt (Q i) (Q j) (Q k) ≠ 0 ∧ p = gm_pt (Q i) (Q j) (Q k) := by
  obtain ⟨_, _, i, j, k, hi, hj, hk, hd, ei, ej, ek⟩ := hp.1
  obtain ⟨a, b, c, h1, h2, ha, hb, hc, hd'⟩ := gm_sorted (Q := Q) (P := fun t => ac t ∧ gm_ev (Q t) p = 0) ⟨hi, ei⟩ ⟨hj, ej⟩ ⟨hk, ek⟩ hd
  exact ⟨a, b, c, h1, h2, ha.1, hb.1, hc.1, hd', gm_pt_eq hp hd' ha.2 hb.2 hc.2⟩

/-- bounds -/
def gm_ok (a : gm_V) : Prop := (-4 ≤ a.1 ∧ a.1 ≤ 4) ∧ (-4 ≤ a.2.1 ∧ a.2.1 ≤ 4) ∧ (-4 ≤ a.2.2.1 ∧ a.2.2.1 ≤ 4) ∧ -60 ≤ a.2.2.2 ∧ a.2.2.2 ≤ 60
def gm_bd (p : gm_V) : Prop := (-5760 ≤ p.1 ∧ p.1 ≤ 5760) ∧ (-5760 ≤ p.2.1 ∧ p.2.1 ≤ 5760) ∧ (-5760 ≤ p.2.2.1 ∧ p.2.2.1 ≤ 5760) ∧ -384 ≤ p.2.2.2 ∧ p.2.2.2 ≤ 384
theorem gm_dt_bd {a1 a2 a3 b1 b2 b3 c1 c2 c3 A B C : Int} (x1 : -A ≤ a1 ∧ a1 ≤ A) (x2 : -B ≤ a2 ∧ a2 ≤ B) (x3 : -C ≤ a3 ∧ a3 ≤ C)
    (y1 : -A ≤ b1 ∧ b1 ≤ A) (y2 : -B ≤ b2 ∧ b2 ≤ B) (y3 : -C ≤ b3 ∧ b3 ≤ C) (z1 : -A ≤ c1 ∧ c1 ≤ A) (z2 : -B ≤ c2 ∧ c2 ≤ B) (z3 : -C ≤ c3 ∧ c3 ≤ C) :
    -(6 * (A * (B * C))) ≤ gm_dt (a1, a2, a3, 0) (b1, b2, b3, 0) (c1, c2, c3, 0) ∧ gm_dt (a1, a2, a3, 0) (b1, b2, b3, 0) (c1, c2, c3, 0) ≤ 6 * (A * (B * C)) := by
  simp only [gm_dt]
  have p1 := nu_pb y2.1 y2.2 z3.1 z3.2
  have p2 := nu_pb y3.1 y3.2 z2.1 z2.2
  have p3 := nu_pb y1.1 y1.2 z3.1 z3.2
  have p4 := nu_pb y3.1 y3.2 z1.1 z1.2
  have p5 := nu_pb y1.1 y1.2 z2.1 z2.2
  have p6 := nu_pb y2.1 y2.2 z1.1 z1.2
  have w1 : C * B = B * C := Int.mul_comm _ _
  have w2 : C * A = A * C := Int.mul_comm _ _
  have w3 : B * A = A * B := Int.mul_comm _ _
  have q1 := nu_pb (a := a1) (b := b2 * c3 - b3 * c2) (A := A) (B := 2 * (B * C)) x1.1 x1.2 (by omega) (by omega)
  have q2 := nu_pb (a := a2) (b := b1 * c3 - b3 * c1) (A := B) (B := 2 * (A * C)) x2.1 x2.2 (by omega) (by omega)
  have q3 := nu_pb (a := a3) (b := b1 * c2 - b2 * c1) (A := C) (B := 2 * (A * B)) x3.1 x3.2 (by omega) (by omega)
  have e1 : A * (2 * (B * C)) = 2 * (A * (B * C)) := by grind
  have e2 : B * (2 * (A * C)) = 2 * (A * (B * C)) := by grind
  have e3 : C * (2 * (A * B)) = 2 * (A * (B * C)) := by grind
  omega
theorem gm_cp_bd {a b c : gm_V} (ha : gm_ok a) (hb : gm_ok b) (hc : gm_ok c) : gm_bd (gm_cp a b c) := by
  obtain ⟨a1, a2, a3, a4⟩ := a
  obtain ⟨b1, b2, b3, b4⟩ := b
  obtain ⟨c1, c2, c3, c4⟩ := c
  obtain ⟨x1, x2, x3, x4⟩ := ha
  obtain ⟨y1, y2, y3, y4⟩ := hb
  obtain ⟨z1, z2, z3, z4⟩ := hc
  have k1 := gm_dt_bd (A := 60) (B := 4) (C := 4) x4 x2 x3 y4 y2 y3 z4 z2 z3
  have k2 := gm_dt_bd (A := 4) (B := 60) (C := 4) x1 x4 x3 y1 y4 y3 z1 z4 z3
  have k3 := gm_dt_bd (A := 4) (B := 4) (C := 60) x1 x2 x4 y1 y2 y4 z1 z2 z4
  have k4 := gm_dt_bd (A := 4) (B := 4) (C := 4) x1 x2 x3 y1 y2 y3 z1 z2 z3
  have e : gm_dt (a1, a2, a3, a4) (b1, b2, b3, b4) (c1, c2, c3, c4) = gm_dt (a1, a2, a3, 0) (b1, b2, b3, 0) (c1, c2, c3, 0) := rfl
  simp only [gm_bd, gm_cp]
  rw [e]
  dsimp only at *
  refine ⟨⟨?_, ?_⟩, ⟨?_, ?_⟩, ⟨?_, ?_⟩, ?_, ?_⟩ <;> omega
theorem gm_tb {x q B : Int} (h1 : -B ≤ x) (h2 : x ≤ B) : -B ≤ x.tdiv q ∧ x.tdiv q ≤ B := by
  have := Int.natAbs_tdiv_le_natAbs x q
  omega
theorem gm_red_bd {p : gm_V} (h : gm_bd p) : gm_bd (gm_red p) := by
  obtain ⟨h1, h2, h3, h4⟩ := h
  exact ⟨gm_tb h1.1 h1.2, gm_tb h2.1 h2.2, gm_tb h3.1 h3.2, gm_tb h4.1 h4.2⟩
theorem gm_vt_bd {Q : Nat → gm_V} {ac : Nat → Prop} (hok : ∀ i, ac i → gm_ok (Q i)) {p : gm_V} (hp : gm_Vt Q ac p) : gm_bd p := by
  obtain ⟨i, j, k, _, _, hi, hj, hk, _, e⟩ := gm_vt_pt hp
  rw [e]
  exact gm_red_bd (gm_cp_bd (hok i hi) (hok j hj) (hok k hk))

/-- the six planes of the box -/
def gm_bx (i : Nat) : gm_V := match i with
  | 0 => (1, 0, 0, 8) | 1 => (-1, 0, 0, 8) | 2 => (0, 1, 0, 8) | 3 => (0, -1, 0, 8) | 4 => (0, 0, 1, 8) | _ => (0, 0, -1, 8)
theorem gm_box {Q : Nat → gm_V} {ac : Nat → Prop} (h : ∀ i, i < 6 → ac i ∧ Q i = gm_bx i) : gm_Bd Q ac := by
  intro d hw hin
  have k := fun i (hi : i < 6) => (h i hi).2 ▸ hin i (h i hi).1
  have h0 := k 0 (by omega)
  have h1 := k 1 (by omega)
  have h2 := k 2 (by omega)
  have h3 := k 3 (by omega)
  have h4 := k 4 (by omega)
  have h5 := k 5 (by omega)
  obtain ⟨x, y, z, w⟩ := d
  simp only [gm_ev, gm_bx] at *
  simp only [Prod.mk.injEq]
  omega
end
