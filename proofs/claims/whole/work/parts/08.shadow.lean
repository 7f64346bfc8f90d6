/-! The shadow: points of a plane (x, y over w); the walk around them meets every outer one once -/
section
variable (x y w : Nat → Int)
def sh_D (k l m : Nat) : Int := x k * (y l * w m - y m * w l) - y k * (x l * w m - x m * w l) + w k * (x l * y m - x m * y l)
def sh_sm (k l : Nat) : Prop := x k * w l = x l * w k ∧ y k * w l = y l * w k
/-- the directions from p to j -/
def sh_u (p j : Nat) : Int := x j * w p - x p * w j
def sh_C (p q j : Nat) : Int := sh_u x w p q * sh_u y w p j - sh_u y w p q * sh_u x w p j
def sh_T (p q j : Nat) : Int := sh_u x w p q * sh_u x w p j + sh_u y w p q * sh_u y w p j
def sh_h (a b : Int) (p j : Nat) : Int := a * sh_u x w p j + b * sh_u y w p j
def sh_E (c p : Nat) : Prop := ∃ a b : Int, ∀ j, j < c → ¬ sh_sm x y w j p → 0 < sh_h x y w a b p j
def sh_O (c p : Nat) : Prop := ∃ q, q < c ∧ ¬ sh_sm x y w q p ∧ ∀ j, j < c → ¬ sh_sm x y w j p → 0 < sh_C x y w p q j ∨ (sh_C x y w p q j = 0 ∧ 0 ≤ sh_T x y w p q j)
/-- q is the next one after p, counterclockwise, by the measure (a, b) -/
def sh_G (a b : Int) (p q j : Nat) : Prop :=
  0 < sh_C x y w p q j ∨ (sh_C x y w p q j = 0 ∧ sh_h x y w a b p j * w q ≤ sh_h x y w a b p q * w j)

variable {x y w : Nat → Int}
theorem sh_CD (p q j : Nat) : sh_C x y w p q j = w p * sh_D x y w p q j := by
  simp only [sh_C, sh_D, sh_u]; grind
theorem sh_sm_symm {k l : Nat} (h : sh_sm x y w k l) : sh_sm x y w l k := ⟨h.1.symm, h.2.symm⟩
theorem sh_sm_refl (k : Nat) : sh_sm x y w k k := ⟨rfl, rfl⟩
theorem sh_sm_trans {k l m : Nat} (hl : w l ≠ 0) (h1 : sh_sm x y w k l) (h2 : sh_sm x y w l m) : sh_sm x y w k m := by
  obtain ⟨a, b⟩ := h1
  obtain ⟨c, d⟩ := h2
  constructor
  · apply Int.eq_of_mul_eq_mul_left hl; grind
  · apply Int.eq_of_mul_eq_mul_left hl; grind
theorem sh_sm_u {p j : Nat} : sh_sm x y w j p ↔ sh_u x w p j = 0 ∧ sh_u y w p j = 0 := by
  simp only [sh_sm, sh_u]; omega
/-- the tie of three directions -/
theorem sh_tie (a b : Int) (p q j k : Nat) :
    sh_h x y w a b p q * sh_C x y w p k j = sh_h x y w a b p j * sh_C x y w p k q + sh_h x y w a b p k * sh_C x y w p q j := by
  simp only [sh_h, sh_C]; grind
theorem sh_Cneg (p q j : Nat) : sh_C x y w p j q = -sh_C x y w p q j := by
  simp only [sh_C]; grind
/-- on one ray -/
theorem sh_ray {a b : Int} {p q j : Nat} (h : sh_C x y w p q j = 0) :
    sh_h x y w a b p q * sh_u x w p j = sh_h x y w a b p j * sh_u x w p q ∧ sh_h x y w a b p q * sh_u y w p j = sh_h x y w a b p j * sh_u y w p q := by
  simp only [sh_h, sh_C] at *
  constructor <;> grind

theorem sh_Gtrans {a b : Int} {p q k j : Nat} (wq : 0 < w q) (wk : 0 < w k) (wj : 0 < w j)
    (hq : 0 < sh_h x y w a b p q) (hk : 0 < sh_h x y w a b p k) (hj : 0 < sh_h x y w a b p j)
    (h1 : sh_C x y w p q k < 0 ∨ (sh_C x y w p q k = 0 ∧ sh_h x y w a b p q * w k ≤ sh_h x y w a b p k * w q)) (h2 : sh_G x y w a b p q j) : sh_G x y w a b p k j := by
  have T := sh_tie (x := x) (y := y) (w := w) a b p q j k
  rw [sh_Cneg p q k] at T
  unfold sh_G at *
  rcases h1 with h1 | ⟨h1, g1⟩
  · left
    have t1 := gm_pp hj (show 0 < -sh_C x y w p q k by omega)
    have t2 : 0 ≤ sh_h x y w a b p k * sh_C x y w p q j := gm_nn (by omega) (by omega)
    rcases Int.lt_or_le 0 (sh_C x y w p k j) with g | g
    · exact g
    · have := gm_np (Int.le_of_lt hq) g
      omega
  · rw [h1] at T
    rcases h2 with h2 | ⟨h2, g2⟩
    · left
      have t2 := gm_pp hk h2
      rcases Int.lt_or_le 0 (sh_C x y w p k j) with g | g
      · exact g
      · have := gm_np (Int.le_of_lt hq) g
        simp only [Int.neg_zero, Int.mul_zero] at T
        omega
    · right
      rw [h2] at T
      simp only [Int.neg_zero, Int.mul_zero] at T
      refine ⟨(Int.mul_eq_zero.mp (by omega : sh_h x y w a b p q * sh_C x y w p k j = 0)).resolve_left (by omega), ?_⟩
      apply gm_mul_cancel wq
      have s1 := Int.mul_le_mul_of_nonneg_right g2 (Int.le_of_lt wk)
      have s2 := Int.mul_le_mul_of_nonneg_right g1 (Int.le_of_lt wj)
      have e1 : w q * (sh_h x y w a b p j * w k) = sh_h x y w a b p j * w q * w k := by grind
      have e2 : sh_h x y w a b p q * w j * w k = sh_h x y w a b p q * w k * w j := by grind
      have e3 : w q * (sh_h x y w a b p k * w j) = sh_h x y w a b p k * w q * w j := by grind
      omega

theorem sh_2d {a b e f : Int} (h1 : a * f - b * e = 0) (h2 : a * e + b * f = 0) : (a * a + b * b + 0 * 0) * e = 0 ∧ (a * a + b * b + 0 * 0) * f = 0 := by
  constructor <;> grind
theorem gm_mul_pos {s b : Int} (hs : 0 < s) (h : 0 < s * b) : 0 < b := gm_mul_cancel_lt hs (by rw [Int.mul_zero]; exact h)
theorem sh_bnd (f : Nat → Int) : ∀ c : Nat, ∃ M : Int, 0 < M ∧ ∀ j, j < c → -M < f j ∧ f j < M := by
  intro c
  induction c with
  | zero => exact ⟨1, by omega, fun j hj => by omega⟩
  | succ c ih =>
    obtain ⟨M, h0, h⟩ := ih
    refine ⟨M + (f c).natAbs + 1, by omega, fun j hj => ?_⟩
    by_cases e : j = c
    · subst e; omega
    · have := h j (by omega); omega

theorem sh_mix {M s t : Int} (hM : 0 < M) (ht : -M < t) (h : 0 < s ∨ (s = 0 ∧ 0 < t)) : 0 < M * s + t := by
  rcases h with h | ⟨h, g⟩
  · have := Int.mul_le_mul_of_nonneg_left (show (1 : Int) ≤ s by omega) (Int.le_of_lt hM)
    omega
  · subst h; simp; exact g

theorem sh_E_lex {c s : Nat} (h : ∀ j, j < c → ¬ sh_sm x y w j s → 0 < sh_u x w s j ∨ (sh_u x w s j = 0 ∧ 0 < sh_u y w s j)) : sh_E x y w c s := by
  obtain ⟨M, h0, hM⟩ := sh_bnd (fun j => sh_u y w s j) c
  refine ⟨M, 1, fun j hj hn => ?_⟩
  have := sh_mix h0 (hM j hj).1 (h j hj hn)
  simp only [sh_h]; omega

theorem sh_E_of {c p : Nat} {e1 e2 : Int} (h : ∀ j, j < c → ¬ sh_sm x y w j p →
    0 < e1 * sh_u y w p j - e2 * sh_u x w p j ∨ (e1 * sh_u y w p j - e2 * sh_u x w p j = 0 ∧ 0 < e1 * sh_u x w p j + e2 * sh_u y w p j)) : sh_E x y w c p := by
  obtain ⟨M, h0, hM⟩ := sh_bnd (fun j => e1 * sh_u x w p j + e2 * sh_u y w p j) c
  refine ⟨e1 - M * e2, M * e1 + e2, fun j hj hn => ?_⟩
  have := sh_mix h0 (hM j hj).1 (h j hj hn)
  have e : sh_h x y w (e1 - M * e2) (M * e1 + e2) p j = M * (e1 * sh_u y w p j - e2 * sh_u x w p j) + (e1 * sh_u x w p j + e2 * sh_u y w p j) := by
    simp only [sh_h]; grind
  rw [e]; exact this

/-- outer by a bounding neighbour is outer by a measure -/
theorem sh_E_O {c p : Nat} (h : sh_O x y w c p) : sh_E x y w c p := by
  obtain ⟨q, hq, hn, hb⟩ := h
  refine sh_E_of (e1 := sh_u x w p q) (e2 := sh_u y w p q) (fun j hj jn => ?_)
  rcases hb j hj jn with g | ⟨g, t⟩
  · exact .inl g
  · refine .inr ⟨g, ?_⟩
    have t' : 0 ≤ sh_u x w p q * sh_u x w p j + sh_u y w p q * sh_u y w p j := t
    have g' : sh_u x w p q * sh_u y w p j - sh_u y w p q * sh_u x w p j = 0 := g
    rcases Int.lt_or_le 0 (sh_u x w p q * sh_u x w p j + sh_u y w p q * sh_u y w p j) with k | k
    · exact k
    · exfalso
      have z : sh_u x w p q * sh_u x w p j + sh_u y w p q * sh_u y w p j = 0 := by omega
      apply jn
      apply sh_sm_u.mpr
      have nz : sh_u x w p q * sh_u x w p q + sh_u y w p q * sh_u y w p q + 0 * 0 ≠ 0 := fun e => hn (sh_sm_u.mpr ⟨(gm_sq _ _ _ e).1, (gm_sq _ _ _ e).2.1⟩)
      constructor
      · exact (Int.mul_eq_zero.mp (sh_2d g' z).1).resolve_left nz
      · exact (Int.mul_eq_zero.mp (sh_2d g' z).2).resolve_left nz

/-- the next one is a bounding neighbour -/
theorem sh_O_G {c p q : Nat} {a b : Int} (hq : q < c) (hn : ¬ sh_sm x y w q p) (hE : ∀ j, j < c → ¬ sh_sm x y w j p → 0 < sh_h x y w a b p j)
    (hG : ∀ j, j < c → ¬ sh_sm x y w j p → sh_G x y w a b p q j) : sh_O x y w c p := by
  refine ⟨q, hq, hn, fun j hj jn => ?_⟩
  rcases hG j hj jn with g | ⟨g, _⟩
  · exact .inl g
  · refine .inr ⟨g, ?_⟩
    obtain ⟨r1, r2⟩ := sh_ray (a := a) (b := b) g
    have hhq := hE q hq hn
    have hhj := hE j hj jn
    apply gm_mul_cancel hhq
    have e : sh_h x y w a b p q * sh_T x y w p q j = sh_h x y w a b p j * (sh_u x w p q * sh_u x w p q + sh_u y w p q * sh_u y w p q) := by
      simp only [sh_T]; grind
    rw [e]
    have s1 := gm_sn (sh_u x w p q)
    have s2 := gm_sn (sh_u y w p q)
    have := gm_nn (Int.le_of_lt hhj) (show 0 ≤ sh_u x w p q * sh_u x w p q + sh_u y w p q * sh_u y w p q by omega)
    omega

/-- the next one is outer too -/
theorem sh_E_next {c p q : Nat} {a b : Int} (hw : ∀ j, j < c → 0 < w j) (hp : p < c) (hq : q < c) (hn : ¬ sh_sm x y w q p)
    (hE : ∀ j, j < c → ¬ sh_sm x y w j p → 0 < sh_h x y w a b p j) (hG : ∀ j, j < c → ¬ sh_sm x y w j p → sh_G x y w a b p q j) : sh_E x y w c q := by
  have wp := hw p hp
  have wq := hw q hq
  have hhq := hE q hq hn
  -- measure: left of the way from p to q, then back towards p
  obtain ⟨M, h0, hM⟩ := sh_bnd (fun j => -(sh_u x w p q * sh_u x w q j + sh_u y w p q * sh_u y w q j)) c
  refine ⟨-sh_u x w p q - M * sh_u y w p q, M * sh_u x w p q - sh_u y w p q, fun j hj jn => ?_⟩
  have wj := hw j hj
  have hcr : 0 < sh_u x w p q * sh_u y w q j - sh_u y w p q * sh_u x w q j ∨
      (sh_u x w p q * sh_u y w q j - sh_u y w p q * sh_u x w q j = 0 ∧ 0 < -(sh_u x w p q * sh_u x w q j + sh_u y w p q * sh_u y w q j)) := by
    have e1 : w p * (sh_u x w p q * sh_u y w q j - sh_u y w p q * sh_u x w q j) = w q * sh_C x y w p q j := by
      simp only [sh_C, sh_u]; grind
    have sq : 0 < sh_u x w p q * sh_u x w p q + sh_u y w p q * sh_u y w p q := by
      have s1 := gm_sn (sh_u x w p q)
      have s2 := gm_sn (sh_u y w p q)
      rcases Int.lt_or_le 0 (sh_u x w p q * sh_u x w p q + sh_u y w p q * sh_u y w p q) with k | k
      · exact k
      · exact absurd (sh_sm_u.mpr ⟨(gm_sq (sh_u x w p q) (sh_u y w p q) 0 (by omega)).1, (gm_sq (sh_u x w p q) (sh_u y w p q) 0 (by omega)).2.1⟩) hn
    have e2 : w p * -(sh_u x w p q * sh_u x w q j + sh_u y w p q * sh_u y w q j)
        = w j * (sh_u x w p q * sh_u x w p q + sh_u y w p q * sh_u y w p q) - w q * sh_T x y w p q j := by
      simp only [sh_T, sh_u]; grind
    by_cases js : sh_sm x y w j p
    · obtain ⟨z1, z2⟩ := sh_sm_u.mp js
      right
      constructor
      · have : w p * (sh_u x w p q * sh_u y w q j - sh_u y w p q * sh_u x w q j) = 0 := by
          rw [e1]; simp only [sh_C, z1, z2]; simp
        exact (Int.mul_eq_zero.mp this).resolve_left (by omega)
      · apply gm_mul_cancel_lt wp
        rw [e2]
        simp only [sh_T, z1, z2]
        have := gm_pp wj sq
        simp only [Int.mul_zero, Int.add_zero, Int.sub_zero]
        exact this
    · rcases hG j hj js with g | ⟨g, gh⟩
      · left
        apply gm_mul_cancel_lt wp
        rw [e1, Int.mul_zero]
        exact gm_pp wq g
      · right
        have z : sh_u x w p q * sh_u y w q j - sh_u y w p q * sh_u x w q j = 0 := by
          have : w p * (sh_u x w p q * sh_u y w q j - sh_u y w p q * sh_u x w q j) = 0 := by rw [e1, g]; simp
          exact (Int.mul_eq_zero.mp this).resolve_left (by omega)
        refine ⟨z, ?_⟩
        obtain ⟨r1, r2⟩ := sh_ray (a := a) (b := b) g
        have e3 : sh_h x y w a b p q * sh_T x y w p q j = sh_h x y w a b p j * (sh_u x w p q * sh_u x w p q + sh_u y w p q * sh_u y w p q) := by
          simp only [sh_T]; grind
        have e4 : sh_h x y w a b p q * (w p * -(sh_u x w p q * sh_u x w q j + sh_u y w p q * sh_u y w q j))
            = (sh_h x y w a b p q * w j - sh_h x y w a b p j * w q) * (sh_u x w p q * sh_u x w p q + sh_u y w p q * sh_u y w p q) := by
          rw [e2]; grind
        have nn : 0 < sh_h x y w a b p q * w j - sh_h x y w a b p j * w q := by
          rcases Int.lt_or_le 0 (sh_h x y w a b p q * w j - sh_h x y w a b p j * w q) with k | k
          · exact k
          · exfalso
            apply jn
            have k0 : sh_h x y w a b p q * w j = sh_h x y w a b p j * w q := by omega
            have f1 : sh_h x y w a b p q * (w p * sh_u x w q j) = 0 := by
              have : w p * sh_u x w q j = w q * sh_u x w p j - w j * sh_u x w p q := by simp only [sh_u]; grind
              rw [this]; grind
            have f2 : sh_h x y w a b p q * (w p * sh_u y w q j) = 0 := by
              have : w p * sh_u y w q j = w q * sh_u y w p j - w j * sh_u y w p q := by simp only [sh_u]; grind
              rw [this]; grind
            have g1 := (Int.mul_eq_zero.mp ((Int.mul_eq_zero.mp f1).resolve_left (by omega))).resolve_left (by omega)
            have g2 := (Int.mul_eq_zero.mp ((Int.mul_eq_zero.mp f2).resolve_left (by omega))).resolve_left (by omega)
            exact sh_sm_u.mpr ⟨g1, g2⟩
        have pos := gm_pp nn sq
        rw [← e4] at pos
        exact gm_mul_pos wp (gm_mul_pos hhq pos)
  have := sh_mix h0 (hM j hj).1 hcr
  have e : sh_h x y w (-sh_u x w p q - M * sh_u y w p q) (M * sh_u x w p q - sh_u y w p q) q j
      = M * (sh_u x w p q * sh_u y w q j - sh_u y w p q * sh_u x w q j) + -(sh_u x w p q * sh_u x w q j + sh_u y w p q * sh_u y w q j) := by
    simp only [sh_h]; grind
  rw [e]; exact this

/-- an outer point is no mean of others -/
theorem sh_mean {c r s p q : Nat} {A B C : Int} (hE : sh_E x y w c r) (hs : s < c) (hp : p < c) (hq : q < c)
    (ns : ¬ sh_sm x y w s r) (np : ¬ sh_sm x y w p r) (nq : ¬ sh_sm x y w q r) (hA : 0 ≤ A) (hB : 0 < B) (hC : 0 < C)
    (K : Int) (e1 : K * x r = A * x s + B * x p + C * x q) (e2 : K * y r = A * y s + B * y p + C * y q) (e3 : K * w r = A * w s + B * w p + C * w q) : False := by
  obtain ⟨a, b, h⟩ := hE
  have h1 := h s hs ns
  have h2 := h p hp np
  have h3 := h q hq nq
  have e : A * sh_h x y w a b r s + B * sh_h x y w a b r p + C * sh_h x y w a b r q = 0 := by
    have : A * sh_h x y w a b r s + B * sh_h x y w a b r p + C * sh_h x y w a b r q =
        a * ((A * x s + B * x p + C * x q) * w r - x r * (A * w s + B * w p + C * w q)) + b * ((A * y s + B * y p + C * y q) * w r - y r * (A * w s + B * w p + C * w q)) := by
      simp only [sh_h, sh_u]; grind
    rw [this, ← e1, ← e2, ← e3]; grind
  have t1 := gm_nn hA (Int.le_of_lt h1)
  have t2 := gm_pp hB h2
  have t3 := gm_pp hC h3
  omega
theorem sh_comb (s p q r : Nat) : sh_D x y w s p q * x r = sh_D x y w p q r * x s + sh_D x y w s r q * x p + sh_D x y w s p r * x q ∧
    sh_D x y w s p q * y r = sh_D x y w p q r * y s + sh_D x y w s r q * y p + sh_D x y w s p r * y q ∧
    sh_D x y w s p q * w r = sh_D x y w p q r * w s + sh_D x y w s r q * w p + sh_D x y w s p r * w q := by
  simp only [sh_D]
  refine ⟨?_, ?_, ?_⟩ <;> grind
end
