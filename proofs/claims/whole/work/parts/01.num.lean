/-! Whole numbers behind the machine's: nu_I, nu_L keep sums and products; masks by testBit -/
section
def nu_I (a : Int) : Int32 := Int32.ofInt a
def nu_L (a : Int) : Int64 := Int64.ofInt a
theorem nu_mn : Int32.minValue.toInt = -2147483648 := by decide
theorem nu_mx : Int32.maxValue.toInt = 2147483647 := by decide
theorem nu_Lmn : Int64.minValue.toInt = -9223372036854775808 := by decide
theorem nu_Lmx : Int64.maxValue.toInt = 9223372036854775807 := by decide
theorem nu_add (a b : Int) : nu_I a + nu_I b = nu_I (a + b) := (Int32.ofInt_add a b).symm
theorem nu_sub (a b : Int) : nu_I a - nu_I b = nu_I (a - b) := (Int32.ofInt_sub a b).symm
theorem nu_mul (a b : Int) : nu_I a * nu_I b = nu_I (a * b) := (Int32.ofInt_mul a b).symm
theorem nu_neg (a : Int) : -nu_I a = nu_I (-a) := (Int32.ofInt_neg a).symm
theorem nu_Ladd (a b : Int) : nu_L a + nu_L b = nu_L (a + b) := (Int64.ofInt_add a b).symm
theorem nu_Lsub (a b : Int) : nu_L a - nu_L b = nu_L (a - b) := (Int64.ofInt_sub a b).symm
theorem nu_Lmul (a b : Int) : nu_L a * nu_L b = nu_L (a * b) := (Int64.ofInt_mul a b).symm
theorem nu_Lneg (a : Int) : -nu_L a = nu_L (-a) := (Int64.ofInt_neg a).symm
theorem nu_nI (n : Nat) : nI n = nu_I n := Int32.ofInt_eq_ofNat.symm
theorem nu_lN (n : Nat) : lN n = nu_L n := Int64.ofInt_eq_ofNat.symm
theorem nu_of (x : Int32) : x = nu_I x.toInt := (Int32.ofInt_toInt x).symm
theorem nu_toInt {a : Int} (h1 : -2147483648 ≤ a) (h2 : a ≤ 2147483647) : (nu_I a).toInt = a :=
  Int32.toInt_ofInt_of_le (by omega) (by omega)
theorem nu_LtoInt {a : Int} (h1 : -9223372036854775808 ≤ a) (h2 : a ≤ 9223372036854775807) : (nu_L a).toInt = a :=
  Int64.toInt_ofInt_of_le (by omega) (by omega)
theorem nu_lt {a b : Int} (h1 : -2147483648 ≤ a) (h2 : a ≤ 2147483647) (h3 : -2147483648 ≤ b) (h4 : b ≤ 2147483647) : nu_I a < nu_I b ↔ a < b := by
  rw [Int32.lt_iff_toInt_lt, nu_toInt h1 h2, nu_toInt h3 h4]
theorem nu_le {a b : Int} (h1 : -2147483648 ≤ a) (h2 : a ≤ 2147483647) (h3 : -2147483648 ≤ b) (h4 : b ≤ 2147483647) : nu_I a ≤ nu_I b ↔ a ≤ b := by
  rw [Int32.le_iff_toInt_le, nu_toInt h1 h2, nu_toInt h3 h4]
theorem nu_eq {a b : Int} (h1 : -2147483648 ≤ a) (h2 : a ≤ 2147483647) (h3 : -2147483648 ≤ b) (h4 : b ≤ 2147483647) : nu_I a = nu_I b ↔ a = b := by
  constructor
  · intro h
    have := congrArg Int32.toInt h
    rwa [nu_toInt h1 h2, nu_toInt h3 h4] at this
  · intro h; rw [h]
theorem nu_Llt {a b : Int} (h1 : -9223372036854775808 ≤ a) (h2 : a ≤ 9223372036854775807) (h3 : -9223372036854775808 ≤ b) (h4 : b ≤ 9223372036854775807) : nu_L a < nu_L b ↔ a < b := by
  rw [Int64.lt_iff_toInt_lt, nu_LtoInt h1 h2, nu_LtoInt h3 h4]
theorem nu_Lle {a b : Int} (h1 : -9223372036854775808 ≤ a) (h2 : a ≤ 9223372036854775807) (h3 : -9223372036854775808 ≤ b) (h4 : b ≤ 9223372036854775807) : nu_L a ≤ nu_L b ↔ a ≤ b := by
  rw [Int64.le_iff_toInt_le, nu_LtoInt h1 h2, nu_LtoInt h3 h4]
theorem nu_Leq {a b : Int} (h1 : -9223372036854775808 ≤ a) (h2 : a ≤ 9223372036854775807) (h3 : -9223372036854775808 ≤ b) (h4 : b ≤ 9223372036854775807) : nu_L a = nu_L b ↔ a = b := by
  constructor
  · intro h
    have := congrArg Int64.toInt h
    rwa [nu_LtoInt h1 h2, nu_LtoInt h3 h4] at this
  · intro h; rw [h]
theorem nu_64 {a : Int} (h1 : -2147483648 ≤ a) (h2 : a ≤ 2147483647) : (nu_I a).toInt64 = nu_L a :=
  Int32.toInt64_ofInt (by rw [nu_mn]; exact h1) (by rw [nu_mx]; exact h2)
theorem nu_32 (a : Int) : (nu_L a).toInt32 = nu_I a := Int64.toInt32_ofInt
theorem nu_div {a b : Int} (h1 : -2147483648 ≤ a) (h2 : a ≤ 2147483647) (h3 : -2147483648 ≤ b) (h4 : b ≤ 2147483647) : nu_I a / nu_I b = nu_I (a.tdiv b) :=
  (Int32.ofInt_tdiv (by rw [nu_mn]; exact h1) (by rw [nu_mx]; exact h2) (by rw [nu_mn]; exact h3) (by rw [nu_mx]; exact h4)).symm
theorem nu_rem {a b : Int} (h1 : -2147483648 ≤ a) (h2 : a ≤ 2147483647) (h3 : -2147483648 ≤ b) (h4 : b ≤ 2147483647) :
    nu_I a - nu_I a / nu_I b * nu_I b = nu_I (a.tmod b) := by
  rw [nu_div h1 h2 h3 h4, nu_mul, nu_sub]
  have := Int.tmod_add_mul_tdiv a b
  have e : a.tdiv b * b = b * a.tdiv b := Int.mul_comm _ _
  rw [e]
  congr 1
  omega

/-- a product's bound from its factors' -/
theorem nu_pb {a b A B : Int} (h1 : -A ≤ a) (h2 : a ≤ A) (h3 : -B ≤ b) (h4 : b ≤ B) : -(A * B) ≤ a * b ∧ a * b ≤ A * B := by
  have ha : a.natAbs ≤ A.natAbs := by omega
  have hb : b.natAbs ≤ B.natAbs := by omega
  have h := Nat.mul_le_mul ha hb
  rw [← Int.natAbs_mul, ← Int.natAbs_mul] at h
  have hA : 0 ≤ A * B := Int.mul_nonneg (by omega) (by omega)
  omega

/-- the mask of a property of the first n numbers -/
def nu_ms (m n : Nat) (P : Nat → Prop) : Prop := ∀ i, m.testBit i = true ↔ (i < n ∧ P i)
theorem nu_ms_u {m m' n : Nat} {P : Nat → Prop} (h : nu_ms m n P) (h' : nu_ms m' n P) : m = m' := by
  apply Nat.eq_of_testBit_eq
  intro i
  have a := h i
  have b := h' i
  cases c : m.testBit i <;> cases d : m'.testBit i <;> simp_all
theorem nu_ms_lt {m n : Nat} {P : Nat → Prop} (h : nu_ms m n P) : m < 2 ^ n := by
  apply Nat.lt_pow_two_of_testBit
  intro i hi
  have a := h i
  cases c : m.testBit i
  · rfl
  · have := (a.mp c).1
    omega
theorem nu_ms_0 (P : Nat → Prop) : nu_ms 0 0 P := by
  intro i
  simp
theorem nu_ms_f {m n : Nat} {P : Nat → Prop} (h : nu_ms m n P) (hn : ¬ P n) : nu_ms m (n + 1) P := by
  intro i
  rw [h i]
  constructor
  · intro a; exact ⟨by omega, a.2⟩
  · intro a
    refine ⟨?_, a.2⟩
    by_cases e : i = n
    · subst e; exact absurd a.2 hn
    · omega
theorem nu_ms_t {m n : Nat} {P : Nat → Prop} (h : nu_ms m n P) (hn : P n) : nu_ms (m ||| 2 ^ n) (n + 1) P := by
  intro i
  rw [Nat.testBit_or, Nat.testBit_two_pow, Bool.or_eq_true, h i, decide_eq_true_eq]
  constructor
  · intro a
    rcases a with a | a
    · exact ⟨by omega, a.2⟩
    · subst a; exact ⟨by omega, hn⟩
  · intro a
    by_cases e : i = n
    · exact .inr e.symm
    · exact .inl ⟨by omega, a.2⟩
theorem nu_ms_and {m m' n : Nat} {P P' : Nat → Prop} (h : nu_ms m n P) (h' : nu_ms m' n P') : nu_ms (m &&& m') n (fun i => P i ∧ P' i) := by
  intro i
  rw [Nat.testBit_and, Bool.and_eq_true, h i, h' i]
  constructor
  · intro a; exact ⟨a.1.1, a.1.2, a.2.2⟩
  · intro a; exact ⟨⟨a.1, a.2.1⟩, a.1, a.2.2⟩
theorem nu_ms_z {m n : Nat} {P : Nat → Prop} (h : nu_ms m n P) : m = 0 ↔ ∀ i, i < n → ¬ P i := by
  constructor
  · intro e i hi hp
    have := (h i).mpr ⟨hi, hp⟩
    rw [e] at this
    simp at this
  · intro a
    apply Nat.eq_of_testBit_eq
    intro i
    cases c : m.testBit i
    · simp
    · have := (h i).mp c
      exact absurd this.2 (a i this.1)
theorem nu_ms_sub {m m' n : Nat} {P P' : Nat → Prop} (h : nu_ms m n P) (h' : nu_ms m' n P') : m &&& m' = m' ↔ ∀ i, i < n → P' i → P i := by
  constructor
  · intro e i hi hp
    have := (h' i).mpr ⟨hi, hp⟩
    rw [← e, Nat.testBit_and, Bool.and_eq_true] at this
    exact ((h i).mp this.1).2
  · intro a
    apply nu_ms_u (nu_ms_and h h') (P := fun i => P i ∧ P' i) (n := n)
    intro i
    rw [h' i]
    constructor
    · intro b; exact ⟨b.1, a i b.1 b.2, b.2⟩
    · intro b; exact ⟨b.1, b.2.2⟩
end
