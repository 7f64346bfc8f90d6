section
/-! rows of kit/rows, pasted: stores, nI and lN arithmetic, shifts, masks, branches by naturals -/
theorem pk_us {f : Nat → Int32} {k : Nat} {x : Int32} : upd f k x k = x := if_pos rfl
theorem pk_un {f : Nat → Int32} {k j : Nat} {x : Int32} (h : j ≠ k) : upd f k x j = f j := if_neg h
theorem pk_uLs {f : Nat → Int64} {k : Nat} {x : Int64} : vp_updL f k x k = x := if_pos rfl
theorem pk_uLn {f : Nat → Int64} {k j : Nat} {x : Int64} (h : j ≠ k) : vp_updL f k x j = f j := if_neg h
theorem pk_sub {a b : Nat} (h : b ≤ a) : nI a - nI b = nI (a - b) := by
  obtain ⟨c, rfl⟩ : ∃ c, a = c + b := ⟨a - b, by omega⟩
  rw [← nI_add, Int32.add_sub_cancel, Nat.add_sub_cancel]
theorem pk_m1 (n : Nat) : nI (n + 1) + (-1) = nI n := by
  rw [← nI_1, Int32.add_assoc, show (1 : Int32) + (-1) = 0 from rfl, Int32.add_zero]
theorem pk_mul (a b : Nat) : nI a * nI b = nI (a * b) := (Int32.ofNat_mul a b).symm
theorem pk_div {a d : Nat} (ha : a < 2 ^ 31) (h0 : 0 < d) (hd : d < 2 ^ 31) : nI a / nI d = nI (a / d) := by
  apply Int32.toInt_inj.mp
  rw [lg_idiv_nonneg (by rw [nI_toInt ha]; omega) (by rw [nI_toInt hd]; omega), nI_toInt ha, nI_toInt hd, nI_toInt (Nat.lt_of_le_of_lt (Nat.div_le_self a d) ha)]
  first | rfl | exact (Int.natCast_ediv _ _).symm
theorem pk_rem {a d : Nat} (ha : a < 2 ^ 31) (h0 : 0 < d) (hd : d < 2 ^ 31) : nI a - nI a / nI d * nI d = nI (a % d) := by
  rw [pk_div ha h0 hd, pk_mul, pk_sub (Nat.div_mul_le_self a d)]
  exact congrArg nI (by have := Nat.div_add_mod' a d; omega)
theorem pk_sub_toInt {a b : Nat} (ha : a < 2 ^ 30) (hb : b < 2 ^ 30) : (nI a - nI b).toInt = (a : Int) - b := by
  rw [Int32.toInt_sub, nI_toInt (by omega), nI_toInt (by omega)]
  exact Int.bmod_eq_of_le (by omega) (by omega)
theorem pk_sneg {a b : Nat} (hb : b < 2 ^ 30) (h : a < b) : nI a - nI b < 0 := by
  rw [Int32.lt_iff_toInt_lt, pk_sub_toInt (by omega) hb, show (0 : Int32).toInt = 0 from by decide]
  omega
theorem pk_ix (x : Int32) {n : Nat} (hn : n < 2 ^ 31) : x < 0 ∨ nI n ≤ x ∨ ∃ j : Nat, j < n ∧ x = nI j := by
  by_cases h : x < 0
  · exact Or.inl h
  · obtain ⟨j, hj, rfl⟩ := nI_of h
    by_cases h2 : j < n
    · exact Or.inr (Or.inr ⟨j, h2, rfl⟩)
    · exact Or.inr (Or.inl (nI_le (by omega) hj))
theorem pk_le {x y : Int32} {A B : Prop} (a b : Nat) (f : a ≤ b → A) (g : b < a → B) (hx : x = nI a := by rfl) (hy : y = nI b := by rfl) (ha : a < 2 ^ 31 := by omega) (hb : b < 2 ^ 31 := by omega) : (x ≤ y → A) ∧ (¬ x ≤ y → B) := by
  subst hx hy
  rw [nI_leI ha hb]
  exact ⟨f, fun z => g (by omega)⟩
theorem pk_lt {x y : Int32} {A B : Prop} (a b : Nat) (f : a < b → A) (g : b ≤ a → B) (hx : x = nI a := by rfl) (hy : y = nI b := by rfl) (ha : a < 2 ^ 31 := by omega) (hb : b < 2 ^ 31 := by omega) : (x < y → A) ∧ (¬ x < y → B) := by
  subst hx hy
  rw [nI_ltI ha hb]
  exact ⟨f, fun z => g (by omega)⟩
theorem pk_eq {x y : Int32} {A B : Prop} (a b : Nat) (f : a = b → A) (g : a ≠ b → B) (hx : x = nI a := by rfl) (hy : y = nI b := by rfl) (ha : a < 2 ^ 31 := by omega) (hb : b < 2 ^ 31 := by omega) : (x = y → A) ∧ (¬ x = y → B) := by
  subst hx hy
  rw [nI_eq ha hb]
  exact ⟨f, g⟩
theorem pk_in {x : Int32} (n N : Nat) (h : n < N) (hx : x = nI n := by rfl) (hN : N < 2 ^ 31 := by omega) : vp_in x N := by
  subst hx
  exact vp_in_nI h hN
theorem pk_cl {x : Int32} (n : Nat) (hx : x = nI n := by rfl) (h : n < 2 ^ 31 := by omega) : x.toNatClampNeg = n := by
  subst hx
  exact nI_clamp h
theorem pk_tn {n : Nat} (h : n < 2 ^ 32) : (nI n).toBitVec.toNat = n := Nat.mod_eq_of_lt h
theorem pk_and (x : Int32) {m : Int32} (k : Nat) (hm : m.toBitVec.toNat = 2 ^ k - 1) : x &&& m = nI (x.toBitVec.toNat % 2 ^ k) := by
  apply Int32.toBitVec_inj.mp
  apply BitVec.eq_of_toNat_eq
  rw [Int32.toBitVec_and, BitVec.toNat_and, hm, Nat.and_two_pow_sub_one_eq_mod]
  show _ = (BitVec.ofNat 32 _).toNat
  rw [BitVec.toNat_ofNat]
  exact (Nat.mod_eq_of_lt (Nat.lt_of_le_of_lt (Nat.mod_le _ _) x.toBitVec.isLt)).symm
theorem pk_andN {n : Nat} (h : n < 2 ^ 32) {m : Int32} (k : Nat) (hm : m.toBitVec.toNat = 2 ^ k - 1) : nI n &&& m = nI (n % 2 ^ k) := by
  rw [pk_and _ k hm, pk_tn h]
theorem pk_andE (x : Int32) {m : Int32} (k : Nat) (hm : m.toBitVec.toNat = 2 ^ k - 1) : ∃ j : Nat, j < 2 ^ k ∧ x &&& m = nI j := ⟨_, Nat.mod_lt _ (Nat.two_pow_pos k), pk_and x k hm⟩
theorem pk_andIn (x : Int32) {m : Int32} (k : Nat) (hm : m.toBitVec.toNat = 2 ^ k - 1) (hk : k ≤ 30) : vp_in (x &&& m) (2 ^ k) := by
  obtain ⟨j, hj, e⟩ := pk_andE x k hm
  rw [e]
  exact vp_in_nI hj (Nat.lt_of_le_of_lt (Nat.pow_le_pow_right (by decide) hk) (by decide))
theorem pk_shl (a s : Int32) (k : Nat) (hs : (s.toBitVec.smod 32).toNat = k) : (a <<< s).toBitVec.toNat = a.toBitVec.toNat * 2 ^ k % 2 ^ 32 := by
  show (a.toBitVec <<< (s.toBitVec.smod 32).toNat).toNat = _
  rw [hs, BitVec.toNat_shiftLeft, Nat.shiftLeft_eq]
theorem pk_shlN {n : Nat} (s : Int32) (k : Nat) (hs : (s.toBitVec.smod 32).toNat = k) (h : n * 2 ^ k < 2 ^ 32) : nI n <<< s = nI (n * 2 ^ k) := by
  apply Int32.toBitVec_inj.mp
  apply BitVec.eq_of_toNat_eq
  have hn : n < 2 ^ 32 := Nat.lt_of_le_of_lt (Nat.le_mul_of_pos_right n (Nat.two_pow_pos k)) h
  rw [pk_shl _ _ k hs, pk_tn hn, pk_tn h, Nat.mod_eq_of_lt h]
theorem pk_shr (a s : Int32) (k : Nat) (hs : (s.toBitVec.smod 32).toNat = k) : (a >>> s).toInt = a.toInt >>> k := by
  show (a.toBitVec.sshiftRight (s.toBitVec.smod 32).toNat).toInt = _
  rw [hs, BitVec.toInt_sshiftRight]
  rfl
theorem pk_shrN {n : Nat} (h : n < 2 ^ 31) (s : Int32) (k : Nat) (hs : (s.toBitVec.smod 32).toNat = k) : nI n >>> s = nI (n / 2 ^ k) := by
  apply Int32.toInt_inj.mp
  have h2 : n / 2 ^ k ≤ n := Nat.div_le_self _ _
  rw [pk_shr _ _ k hs, nI_toInt h, nI_toInt (by omega), Int.shiftRight_eq_div_pow]
  rfl
theorem pk_lT {n : Nat} (h : n < 2 ^ 63) : (lN n).toInt = (n : Int) := lg_ofNat_toInt h
theorem pk_lLT {a b : Nat} (ha : a < 2 ^ 63) (hb : b < 2 ^ 63) : lN a < lN b ↔ a < b := by
  rw [Int64.lt_iff_toInt_lt, pk_lT ha, pk_lT hb]; omega
theorem pk_lLE {a b : Nat} (ha : a < 2 ^ 63) (hb : b < 2 ^ 63) : lN a ≤ lN b ↔ a ≤ b := by
  rw [Int64.le_iff_toInt_le, pk_lT ha, pk_lT hb]; omega
theorem pk_lEQ {a b : Nat} (ha : a < 2 ^ 63) (hb : b < 2 ^ 63) : lN a = lN b ↔ a = b := by
  rw [← Int64.toInt_inj, pk_lT ha, pk_lT hb]; omega
theorem pk_lOf {x : Int64} (h : ¬ x < 0) : ∃ k : Nat, k < 2 ^ 63 ∧ x = lN k := by
  rw [Int64.lt_iff_toInt_lt] at h
  have h0 : (0 : Int64).toInt = 0 := by decide
  have hx := Int64.toInt_lt x
  refine ⟨x.toInt.toNat, by omega, Int64.toInt_inj.mp ?_⟩
  rw [pk_lT (by omega)]
  omega
theorem pk_least (P : Nat → Prop) (h : ∃ k, P k) : ∃ k, P k ∧ ∀ j, j < k → ¬ P j := by
  obtain ⟨k, hk⟩ := h
  induction k using Nat.strongRecOn with
  | ind k ih =>
    by_cases e : ∃ j, j < k ∧ P j
    · obtain ⟨j, hj, pj⟩ := e
      exact ih j hj pj
    · exact ⟨k, hk, fun j hj pj => e ⟨j, hj, pj⟩⟩
theorem ek_if {c d A B : Prop} (e : c ↔ d) (f : d → A) (g : ¬ d → B) : (c → A) ∧ (¬ c → B) :=
  ⟨fun z => f (e.mp z), fun z => g (fun y => z (e.mpr y))⟩
theorem ek_v {α : Sort _} {P : α → Prop} {a b : α} (e : a = b) (h : P b) : P a := e ▸ h
theorem s_l : ∀ n, n < 32 → ((nI n &&& 31).toBitVec.smod 32).toNat = n := by decide +kernel
theorem nx_and (a b : Nat) : nI a &&& nI b = nI (a &&& b) := by
  apply Int32.toBitVec_inj.1
  show BitVec.ofNat 32 a &&& BitVec.ofNat 32 b = BitVec.ofNat 32 (a &&& b)
  apply BitVec.eq_of_getLsbD_eq
  intro i hi
  simp [hi]
theorem wb_tb (n : Nat) : (lN n).toBitVec = BitVec.ofNat 64 n := rfl
theorem wb_inj {a b : Int64} (h : a.toBitVec = b.toBitVec) : a = b := Int64.toBitVec_inj.mp h
theorem wb_tn {n : Nat} (h : n < 2 ^ 64) : (lN n).toBitVec.toNat = n := by rw [wb_tb, BitVec.toNat_ofNat, Nat.mod_eq_of_lt h]
theorem wb_of (x : Int64) : ∃ n, n < 2 ^ 64 ∧ x = lN n := ⟨x.toBitVec.toNat, x.toBitVec.isLt, wb_inj (by rw [wb_tb]; simp)⟩
theorem wb_of32 (x : Int32) : ∃ n, n < 2 ^ 32 ∧ x = nI n := ⟨x.toBitVec.toNat, x.toBitVec.isLt, Int32.toBitVec_inj.mp (by show _ = BitVec.ofNat 32 _; simp)⟩
theorem wb_c : ∀ k, k < 64 → ((nI k).toInt64 &&& 63) = lN k := by decide +kernel
theorem wb_cu : ∀ k, k < 64 → ((nI k).toInt64.toUInt64 &&& Int64.toUInt64 63) = UInt64.ofNat k := by decide +kernel
theorem wb_sm : ∀ k, k < 64 → (BitVec.ofNat 64 k).smod 64 = BitVec.ofNat 64 k := by decide +kernel
theorem wb_pw {a b : Nat} (h : a ≤ b) : 2 ^ b = 2 ^ a * 2 ^ (b - a) := by rw [← Nat.pow_add]; congr 1; omega
theorem wb_lt2 {a b : Nat} (h : a < b) : 2 ^ a < 2 ^ b := Nat.pow_lt_pow_right (by decide) h
theorem wb_mod (n : Nat) : lN n = lN (n % 2 ^ 64) := wb_inj (by rw [wb_tb, wb_tb]; apply BitVec.eq_of_toNat_eq; rw [BitVec.toNat_ofNat, BitVec.toNat_ofNat, Nat.mod_mod])
theorem wb_shr {n k : Nat} (hn : n < 2 ^ 64) (hk : k < 64) : ((lN n).toUInt64 >>> ((nI k).toInt64.toUInt64 &&& Int64.toUInt64 63)).toInt64 = lN (n / 2 ^ k) := by
  rw [wb_cu k hk]
  apply wb_inj
  apply BitVec.eq_of_toNat_eq
  show ((lN n).toUInt64 >>> UInt64.ofNat k).toNat = (BitVec.ofNat 64 _).toNat
  have h1 : (UInt64.ofNat k).toNat = k := by
    show (BitVec.ofNat 64 k).toNat = k
    rw [BitVec.toNat_ofNat, Nat.mod_eq_of_lt (by omega)]
  have h2 : (lN n).toUInt64.toNat = n := wb_tn hn
  rw [UInt64.toNat_shiftRight, h1, h2, Nat.mod_eq_of_lt hk, Nat.shiftRight_eq_div_pow, BitVec.toNat_ofNat, Nat.mod_eq_of_lt (Nat.lt_of_le_of_lt (Nat.div_le_self _ _) hn)]
theorem wb_shl (n : Nat) {k : Nat} (hk : k < 64) : lN n <<< ((nI k).toInt64 &&& 63) = lN (n * 2 ^ k) := by
  rw [wb_c k hk]
  apply wb_inj
  rw [Int64.toBitVec_shiftLeft, wb_tb, wb_tb, wb_tb, wb_sm k hk]
  apply BitVec.eq_of_toNat_eq
  rw [BitVec.shiftLeft_eq', BitVec.toNat_shiftLeft, BitVec.toNat_ofNat, BitVec.toNat_ofNat, BitVec.toNat_ofNat, Nat.mod_eq_of_lt (show k < 2 ^ 64 by omega), Nat.shiftLeft_eq, Nat.mul_mod, Nat.mod_mod, ← Nat.mul_mod]
theorem wb_and {a b : Nat} (ha : a < 2 ^ 64) (hb : b < 2 ^ 64) : lN a &&& lN b = lN (a &&& b) := by
  apply wb_inj
  rw [Int64.toBitVec_and, wb_tb, wb_tb, wb_tb]
  apply BitVec.eq_of_toNat_eq
  rw [BitVec.toNat_and, BitVec.toNat_ofNat, BitVec.toNat_ofNat, BitVec.toNat_ofNat, Nat.mod_eq_of_lt ha, Nat.mod_eq_of_lt hb, Nat.mod_eq_of_lt (Nat.and_lt_two_pow _ hb)]
theorem wb_or {a b : Nat} (ha : a < 2 ^ 64) (hb : b < 2 ^ 64) : lN a ||| lN b = lN (a ||| b) := by
  apply wb_inj
  rw [Int64.toBitVec_or, wb_tb, wb_tb, wb_tb]
  apply BitVec.eq_of_toNat_eq
  rw [BitVec.toNat_or, BitVec.toNat_ofNat, BitVec.toNat_ofNat, BitVec.toNat_ofNat, Nat.mod_eq_of_lt ha, Nat.mod_eq_of_lt hb, Nat.mod_eq_of_lt (Nat.or_lt_two_pow ha hb)]
theorem wb_mask {n k : Nat} (hn : n < 2 ^ 64) (hk : k < 64) : lN n &&& lN (2 ^ k - 1) = lN (n % 2 ^ k) := by
  rw [wb_and hn (by have := wb_lt2 hk; omega), Nat.and_two_pow_sub_one_eq_mod]
theorem wb_a1 {n : Nat} (hn : n < 2 ^ 64) : lN n &&& 1 = lN (n % 2) := wb_mask (k := 1) hn (by decide)
theorem wb_bit {n k : Nat} (hn : n < 2 ^ 64) (hk : k < 64) : ((lN n).toUInt64 >>> ((nI k).toInt64.toUInt64 &&& Int64.toUInt64 63)).toInt64 &&& 1 = lN (n / 2 ^ k % 2) := by
  rw [wb_shr hn hk, wb_a1 (Nat.lt_of_le_of_lt (Nat.div_le_self _ _) hn)]
theorem pf_lI {a : Nat} (h : a < 2 ^ 63) : (lN a).toInt = (a : Int) := lg_ofNat_toInt h
theorem pf_shr {a d : Nat} {D : Int64} (hD : (D.toBitVec.smod 64).toNat = d) (h : a < 2 ^ 62) : lN a >>> D = lN (a / 2 ^ d) := by
  have hd : a / 2 ^ d ≤ a := Nat.div_le_self _ _
  apply Int64.toInt_inj.mp
  have e : (lN a >>> D).toInt = (lN a).toInt >>> d := by
    rw [← hD]
    exact BitVec.toInt_sshiftRight ..
  rw [e, Int.shiftRight_eq_div_pow, pf_lI (by omega), pf_lI (by omega)]
  rfl
end
section
/-! Whole numbers behind the machine's: nu_I, nu_L keep sums and products; masks by testBit -/
section
def nu_I (a : Int) : Int32 := Int32.ofInt a
def nu_L (a : Int) : Int64 := Int64.ofInt a
theorem nu_mn : Int32.minValue.toInt = -2147483648 := by decide
theorem nu_mx : Int32.maxValue.toInt = 2147483647 := by decide
theorem nu_Lmn : Int64.minValue.toInt = -9223372036854775808 := by decide
theorem nu_Lmx : Int64.maxValue.toInt = 9223372036854775807 := by decide
theorem nu_add (a b : Int) : nu_I a + nu_I b = nu_I (a + b) := (Int32.ofInt_add a b).symm
theorem nu_sub (a b : Int) : nu_I a - nu_I b = nu_I (a - b) := (Int32.ofInt_sub a b).symm
theorem nu_mul (a b : Int) : nu_I a * nu_I b = nu_I (a * b) := (Int32.ofInt_mul a b).symm
theorem nu_neg (a : Int) : -nu_I a = nu_I (-a) := (Int32.ofInt_neg a).symm
theorem nu_Ladd (a b : Int) : nu_L a + nu_L b = nu_L (a + b) := (Int64.ofInt_add a b).symm
theorem nu_Lsub (a b : Int) : nu_L a - nu_L b = nu_L (a - b) := (Int64.ofInt_sub a b).symm
theorem nu_Lmul (a b : Int) : nu_L a * nu_L b = nu_L (a * b) := (Int64.ofInt_mul a b).symm
theorem nu_Lneg (a : Int) : -nu_L a = nu_L (-a) := (Int64.ofInt_neg a).symm
theorem nu_nI (n : Nat) : nI n = nu_I n := Int32.ofInt_eq_ofNat.symm
theorem nu_lN (n : Nat) : lN n = nu_L n := Int64.ofInt_eq_ofNat.symm
theorem nu_of (x : Int32) : x = nu_I x.toInt := (Int32.ofInt_toInt x).symm
theorem nu_toInt {a : Int} (h1 : -2147483648 ≤ a) (h2 : a ≤ 2147483647) : (nu_I a).toInt = a :=
  Int32.toInt_ofInt_of_le (by omega) (by omega)
theorem nu_LtoInt {a : Int} (h1 : -9223372036854775808 ≤ a) (h2 : a ≤ 9223372036854775807) : (nu_L a).toInt = a :=
  Int64.toInt_ofInt_of_le (by omega) (by omega)
theorem nu_lt {a b : Int} (h1 : -2147483648 ≤ a) (h2 : a ≤ 2147483647) (h3 : -2147483648 ≤ b) (h4 : b ≤ 2147483647) : nu_I a < nu_I b ↔ a < b := by
  rw [Int32.lt_iff_toInt_lt, nu_toInt h1 h2, nu_toInt h3 h4]
theorem nu_le {a b : Int} (h1 : -2147483648 ≤ a) (h2 : a ≤ 2147483647) (h3 : -2147483648 ≤ b) (h4 : b ≤ 2147483647) : nu_I a ≤ nu_I b ↔ a ≤ b := by
  rw [Int32.le_iff_toInt_le, nu_toInt h1 h2, nu_toInt h3 h4]
theorem nu_eq {a b : Int} (h1 : -2147483648 ≤ a) (h2 : a ≤ 2147483647) (h3 : -2147483648 ≤ b) (h4 : b ≤ 2147483647) : nu_I a = nu_I b ↔ a = b := by
  constructor
  · intro h
    have := congrArg Int32.toInt h
    rwa [nu_toInt h1 h2, nu_toInt h3 h4] at this
  · intro h; rw [h]
theorem nu_Llt {a b : Int} (h1 : -9223372036854775808 ≤ a) (h2 : a ≤ 9223372036854775807) (h3 : -9223372036854775808 ≤ b) (h4 : b ≤ 9223372036854775807) : nu_L a < nu_L b ↔ a < b := by
  rw [Int64.lt_iff_toInt_lt, nu_LtoInt h1 h2, nu_LtoInt h3 h4]
theorem nu_Lle {a b : Int} (h1 : -9223372036854775808 ≤ a) (h2 : a ≤ 9223372036854775807) (h3 : -9223372036854775808 ≤ b) (h4 : b ≤ 9223372036854775807) : nu_L a ≤ nu_L b ↔ a ≤ b := by
  rw [Int64.le_iff_toInt_le, nu_LtoInt h1 h2, nu_LtoInt h3 h4]
theorem nu_Leq {a b : Int} (h1 : -9223372036854775808 ≤ a) (h2 : a ≤ 9223372036854775807) (h3 : -9223372036854775808 ≤ b) (h4 : b ≤ 9223372036854775807) : nu_L a = nu_L b ↔ a = b := by
  constructor
  · intro h
    have := congrArg Int64.toInt h
    rwa [nu_LtoInt h1 h2, nu_LtoInt h3 h4] at this
  · intro h; rw [h]
theorem nu_64 {a : Int} (h1 : -2147483648 ≤ a) (h2 : a ≤ 2147483647) : (nu_I a).toInt64 = nu_L a :=
  Int32.toInt64_ofInt (by rw [nu_mn]; exact h1) (by rw [nu_mx]; exact h2)
theorem nu_32 (a : Int) : (nu_L a).toInt32 = nu_I a := Int64.toInt32_ofInt
theorem nu_div {a b : Int} (h1 : -2147483648 ≤ a) (h2 : a ≤ 2147483647) (h3 : -2147483648 ≤ b) (h4 : b ≤ 2147483647) : nu_I a / nu_I b = nu_I (a.tdiv b) :=
  (Int32.ofInt_tdiv (by rw [nu_mn]; exact h1) (by rw [nu_mx]; exact h2) (by rw [nu_mn]; exact h3) (by rw [nu_mx]; exact h4)).symm
theorem nu_rem {a b : Int} (h1 : -2147483648 ≤ a) (h2 : a ≤ 2147483647) (h3 : -2147483648 ≤ b) (h4 : b ≤ 2147483647) :
    nu_I a - nu_I a / nu_I b * nu_I b = nu_I (a.tmod b) := by
  rw [nu_div h1 h2 h3 h4, nu_mul, nu_sub]
  have := Int.tmod_add_mul_tdiv a b
  have e : a.tdiv b * b = b * a.tdiv b := Int.mul_comm _ _
  rw [e]
  congr 1
  omega

/-- a product's bound from its factors' -/
theorem nu_pb {a b A B : Int} (h1 : -A ≤ a) (h2 : a ≤ A) (h3 : -B ≤ b) (h4 : b ≤ B) : -(A * B) ≤ a * b ∧ a * b ≤ A * B := by
  have ha : a.natAbs ≤ A.natAbs := by omega
  have hb : b.natAbs ≤ B.natAbs := by omega
  have h := Nat.mul_le_mul ha hb
  rw [← Int.natAbs_mul, ← Int.natAbs_mul] at h
  have hA : 0 ≤ A * B := Int.mul_nonneg (by omega) (by omega)
  omega

/-- the mask of a property of the first n numbers -/
def nu_ms (m n : Nat) (P : Nat → Prop) : Prop := ∀ i, m.testBit i = true ↔ (i < n ∧ P i)
theorem nu_ms_u {m m' n : Nat} {P : Nat → Prop} (h : nu_ms m n P) (h' : nu_ms m' n P) : m = m' := by
  apply Nat.eq_of_testBit_eq
  intro i
  have a := h i
  have b := h' i
  cases c : m.testBit i <;> cases d : m'.testBit i <;> simp_all
theorem nu_ms_lt {m n : Nat} {P : Nat → Prop} (h : nu_ms m n P) : m < 2 ^ n := by
  apply Nat.lt_pow_two_of_testBit
  intro i hi
  have a := h i
  cases c : m.testBit i
  · rfl
  · have := (a.mp c).1
    omega
theorem nu_ms_0 (P : Nat → Prop) : nu_ms 0 0 P := by
  intro i
  simp
theorem nu_ms_f {m n : Nat} {P : Nat → Prop} (h : nu_ms m n P) (hn : ¬ P n) : nu_ms m (n + 1) P := by
  intro i
  rw [h i]
  constructor
  · intro a; exact ⟨by omega, a.2⟩
  · intro a
    refine ⟨?_, a.2⟩
    by_cases e : i = n
    · subst e; exact absurd a.2 hn
    · omega
theorem nu_ms_t {m n : Nat} {P : Nat → Prop} (h : nu_ms m n P) (hn : P n) : nu_ms (m ||| 2 ^ n) (n + 1) P := by
  intro i
  rw [Nat.testBit_or, Nat.testBit_two_pow, Bool.or_eq_true, h i, decide_eq_true_eq]
  constructor
  · intro a
    rcases a with a | a
    · exact ⟨by omega, a.2⟩
    · subst a; exact ⟨by omega, hn⟩
  · intro a
    by_cases e : i = n
    · exact .inr e.symm
    · exact .inl ⟨by omega, a.2⟩
theorem nu_ms_and {m m' n : Nat} {P P' : Nat → Prop} (h : nu_ms m n P) (h' : nu_ms m' n P') : nu_ms (m &&& m') n (fun i => P i ∧ P' i) := by
  intro i
  rw [Nat.testBit_and, Bool.and_eq_true, h i, h' i]
  constructor
  · intro a; exact ⟨a.1.1, a.1.2, a.2.2⟩
  · intro a; exact ⟨⟨a.1, a.2.1⟩, a.1, a.2.2⟩
theorem nu_ms_z {m n : Nat} {P : Nat → Prop} (h : nu_ms m n P) : m = 0 ↔ ∀ i, i < n → ¬ P i := by
  constructor
  · intro e i hi hp
    have := (h i).mpr ⟨hi, hp⟩
    rw [e] at this
    simp at this
  · intro a
    apply Nat.eq_of_testBit_eq
    intro i
    cases c : m.testBit i
    · simp
    · have := (h i).mp c
      exact absurd this.2 (a i this.1)
theorem nu_ms_sub {m m' n : Nat} {P P' : Nat → Prop} (h : nu_ms m n P) (h' : nu_ms m' n P') : m &&& m' = m' ↔ ∀ i, i < n → P' i → P i := by
  constructor
  · intro e i hi hp
    have := (h' i).mpr ⟨hi, hp⟩
    rw [← e, Nat.testBit_and, Bool.and_eq_true] at this
    exact ((h i).mp this.1).2
  · intro a
    apply nu_ms_u (nu_ms_and h h') (P := fun i => P i ∧ P' i) (n := n)
    intro i
    rw [h' i]
    constructor
    · intro b; exact ⟨b.1, a i b.1 b.2, b.2⟩
    · intro b; exact ⟨b.1, b.2.2⟩
end
end
section
/-! The geometry: planes and points as four whole numbers, a point's last one its bottom -/
section
abbrev gm_V : Type := Int × Int × Int × Int
def gm_ev (a p : gm_V) : Int := a.1 * p.1 + a.2.1 * p.2.1 + a.2.2.1 * p.2.2.1 - a.2.2.2 * p.2.2.2
def gm_lc (s : Int) (p : gm_V) (t : Int) (q : gm_V) : gm_V :=
  (s * p.1 + t * q.1, s * p.2.1 + t * q.2.1, s * p.2.2.1 + t * q.2.2.1, s * p.2.2.2 + t * q.2.2.2)
def gm_dt (a b c : gm_V) : Int :=
  a.1 * (b.2.1 * c.2.2.1 - b.2.2.1 * c.2.1) - a.2.1 * (b.1 * c.2.2.1 - b.2.2.1 * c.1) + a.2.2.1 * (b.1 * c.2.1 - b.2.1 * c.1)
def gm_cr (a b : gm_V) : gm_V :=
  (a.2.1 * b.2.2.1 - a.2.2.1 * b.2.1, a.2.2.1 * b.1 - a.1 * b.2.2.1, a.1 * b.2.1 - a.2.1 * b.1, 0)
def gm_pr (p q : gm_V) : Prop :=
  p.1 * q.2.2.2 = q.1 * p.2.2.2 ∧ p.2.1 * q.2.2.2 = q.2.1 * p.2.2.2 ∧ p.2.2.1 * q.2.2.2 = q.2.2.1 * p.2.2.2

theorem gm_ev_lc (a : gm_V) (s : Int) (p : gm_V) (t : Int) (q : gm_V) :
    gm_ev a (gm_lc s p t q) = s * gm_ev a p + t * gm_ev a q := by
  simp only [gm_ev, gm_lc]; grind
theorem gm_w_lc (s : Int) (p : gm_V) (t : Int) (q : gm_V) : (gm_lc s p t q).2.2.2 = s * p.2.2.2 + t * q.2.2.2 := rfl

theorem gm_cramer {a b c d : gm_V} (hd : gm_dt a b c ≠ 0) (hw : d.2.2.2 = 0) (ha : gm_ev a d = 0) (hb : gm_ev b d = 0)
    (hc : gm_ev c d = 0) : d = (0, 0, 0, 0) := by
  obtain ⟨a1, a2, a3, a4⟩ := a
  obtain ⟨b1, b2, b3, b4⟩ := b
  obtain ⟨c1, c2, c3, c4⟩ := c
  obtain ⟨x, y, z, w⟩ := d
  simp only [gm_ev, gm_dt] at *
  subst hw
  have hx : (a1 * (b2 * c3 - b3 * c2) - a2 * (b1 * c3 - b3 * c1) + a3 * (b1 * c2 - b2 * c1)) * x = 0 := by grind
  have hy : (a1 * (b2 * c3 - b3 * c2) - a2 * (b1 * c3 - b3 * c1) + a3 * (b1 * c2 - b2 * c1)) * y = 0 := by grind
  have hz : (a1 * (b2 * c3 - b3 * c2) - a2 * (b1 * c3 - b3 * c1) + a3 * (b1 * c2 - b2 * c1)) * z = 0 := by grind
  have e1 := (Int.mul_eq_zero.mp hx).resolve_left hd
  have e2 := (Int.mul_eq_zero.mp hy).resolve_left hd
  have e3 := (Int.mul_eq_zero.mp hz).resolve_left hd
  rw [e1, e2, e3]

theorem gm_pr_ev {p q : gm_V} (h : gm_pr p q) (f : gm_V) : gm_ev f p * q.2.2.2 = gm_ev f q * p.2.2.2 := by
  obtain ⟨h1, h2, h3⟩ := h
  simp only [gm_ev]; grind

theorem gm_pr_symm {p q : gm_V} (h : gm_pr p q) : gm_pr q p := ⟨h.1.symm, h.2.1.symm, h.2.2.symm⟩

theorem gm_pr_of {p q : gm_V} (h : gm_lc q.2.2.2 p (-p.2.2.2) q = (0, 0, 0, 0)) : gm_pr p q := by
  simp only [gm_lc, Prod.mk.injEq] at h
  obtain ⟨h1, h2, h3, _⟩ := h
  refine ⟨?_, ?_, ?_⟩ <;> grind

theorem gm_uniq {a b c p q : gm_V} (hd : gm_dt a b c ≠ 0) (ha : gm_ev a p = 0) (hb : gm_ev b p = 0) (hc : gm_ev c p = 0)
    (ha' : gm_ev a q = 0) (hb' : gm_ev b q = 0) (hc' : gm_ev c q = 0) : gm_pr p q := by
  apply gm_pr_of
  apply gm_cramer hd
  · rw [gm_w_lc]; grind
  · rw [gm_ev_lc, ha, ha']; simp
  · rw [gm_ev_lc, hb, hb']; simp
  · rw [gm_ev_lc, hc, hc']; simp

theorem gm_mul_cancel {s a b : Int} (hs : 0 < s) (h : s * a ≤ s * b) : a ≤ b := Int.le_of_mul_le_mul_left h hs
theorem gm_mul_cancel_lt {s a b : Int} (hs : 0 < s) (h : s * a < s * b) : a < b := by
  rcases Int.lt_or_le a b with h1 | h1
  · exact h1
  · have := Int.mul_le_mul_of_nonneg_left h1 (Int.le_of_lt hs)
    omega
theorem gm_np {a b : Int} (ha : 0 ≤ a) (hb : b ≤ 0) : a * b ≤ 0 := Int.mul_nonpos_of_nonneg_of_nonpos ha hb
theorem gm_nn {a b : Int} (ha : 0 ≤ a) (hb : 0 ≤ b) : 0 ≤ a * b := Int.mul_nonneg ha hb
theorem gm_pp {a b : Int} (ha : 0 < a) (hb : 0 < b) : 0 < a * b := Int.mul_pos ha hb
theorem gm_pn {a b : Int} (ha : 0 < a) (hb : b < 0) : a * b < 0 := Int.mul_neg_of_pos_of_neg ha hb

theorem gm_min (r s : Nat → Int) (C : Nat → Prop) : ∀ n : Nat, (∀ i, i < n → C i → 0 < s i) → (∃ i, i < n ∧ C i) →
    ∃ i, i < n ∧ C i ∧ ∀ j, j < n → C j → r i * s j ≤ r j * s i := by
  intro n
  induction n with
  | zero => intro _ h; obtain ⟨i, hi, _⟩ := h; omega
  | succ n ih =>
    intro hs h
    by_cases hex : ∃ i, i < n ∧ C i
    · obtain ⟨i, hi, ci, hm⟩ := ih (fun i hi => hs i (by omega)) hex
      by_cases hn : C n
      · by_cases hc : r i * s n ≤ r n * s i
        · refine ⟨i, by omega, ci, fun j hj cj => ?_⟩
          by_cases e : j = n
          · subst e; exact hc
          · exact hm j (by omega) cj
        · refine ⟨n, by omega, hn, fun j hj cj => ?_⟩
          by_cases e : j = n
          · subst e; exact Int.le_refl _
          · have h1 := hm j (by omega) cj
            have pi := hs i (by omega) ci
            have pn := hs n (by omega) hn
            have pj := hs j (by omega) cj
            have h2 : r n * s i ≤ r i * s n := by omega
            have h3 := Int.mul_le_mul_of_nonneg_left h1 (Int.le_of_lt pn)
            have h4 := Int.mul_le_mul_of_nonneg_right h2 (Int.le_of_lt pj)
            apply gm_mul_cancel pi
            have e1 : s i * (r n * s j) = r n * s i * s j := by grind
            have e2 : s i * (r j * s n) = s n * (r j * s i) := by grind
            have e3 : r i * s n * s j = s n * (r i * s j) := by grind
            rw [e1, e2]
            rw [e3] at h4
            exact Int.le_trans h4 h3
      · refine ⟨i, by omega, ci, fun j hj cj => ?_⟩
        by_cases e : j = n
        · subst e; exact absurd cj hn
        · exact hm j (by omega) cj
    · obtain ⟨i, hi, ci⟩ := h
      have e : i = n := by
        by_cases e : i = n
        · exact e
        · exact absurd ⟨i, by omega, ci⟩ hex
      subst e
      refine ⟨i, hi, ci, fun j hj cj => ?_⟩
      by_cases e : j = i
      · subst e; exact Int.le_refl _
      · exact absurd ⟨j, by omega, cj⟩ hex

noncomputable def gm_cn (P : Nat → Prop) : Nat → Nat
  | 0 => 0
  | n + 1 => gm_cn P n + @ite Nat (P n) (Classical.propDecidable (P n)) 1 0
theorem gm_cn_t {P : Nat → Prop} {n : Nat} (h : P n) : gm_cn P (n + 1) = gm_cn P n + 1 := by
  rw [gm_cn]; simp [h]
theorem gm_cn_f {P : Nat → Prop} {n : Nat} (h : ¬ P n) : gm_cn P (n + 1) = gm_cn P n := by
  rw [gm_cn]; simp [h]
theorem gm_cn_le {P P' : Nat → Prop} : ∀ n : Nat, (∀ i, i < n → P i → P' i) → gm_cn P n ≤ gm_cn P' n := by
  intro n
  induction n with
  | zero => intro _; exact Nat.le_refl _
  | succ n ih =>
    intro h
    have h1 := ih (fun i hi => h i (by omega))
    by_cases a : P n
    · rw [gm_cn_t a, gm_cn_t (h n (by omega) a)]; omega
    · rw [gm_cn_f a]
      by_cases b : P' n
      · rw [gm_cn_t b]; omega
      · rw [gm_cn_f b]; exact h1
theorem gm_cn_lt {P P' : Nat → Prop} : ∀ n : Nat, (∀ i, i < n → P i → P' i) → (∃ i, i < n ∧ P' i ∧ ¬ P i) → gm_cn P n < gm_cn P' n := by
  intro n
  induction n with
  | zero => intro _ h; obtain ⟨i, hi, _⟩ := h; omega
  | succ n ih =>
    intro h hx
    obtain ⟨i, hi, h1, h2⟩ := hx
    by_cases e : i = n
    · subst e
      have := gm_cn_le i (fun j hj => h j (by omega))
      rw [gm_cn_f h2, gm_cn_t h1]; omega
    · have h3 := ih (fun j hj => h j (by omega)) ⟨i, by omega, h1, h2⟩
      by_cases a : P n
      · rw [gm_cn_t a, gm_cn_t (h n (by omega) a)]; omega
      · rw [gm_cn_f a]
        by_cases b : P' n
        · rw [gm_cn_t b]; omega
        · rw [gm_cn_f b]; exact h3

def gm_In (Q : Nat → gm_V) (ac : Nat → Prop) (p : gm_V) : Prop := ∀ i, ac i → gm_ev (Q i) p ≤ 0
def gm_Bd (Q : Nat → gm_V) (ac : Nat → Prop) : Prop := ∀ d : gm_V, d.2.2.2 = 0 → gm_In Q ac d → d = (0, 0, 0, 0)
def gm_Vx (Q : Nat → gm_V) (ac : Nat → Prop) (p : gm_V) : Prop :=
  0 < p.2.2.2 ∧ gm_In Q ac p ∧ ∃ i j k, ac i ∧ ac j ∧ ac k ∧ gm_dt (Q i) (Q j) (Q k) ≠ 0 ∧
    gm_ev (Q i) p = 0 ∧ gm_ev (Q j) p = 0 ∧ gm_ev (Q k) p = 0

theorem gm_move {Q : Nat → gm_V} {ac : Nat → Prop} {n : Nat} (hac : ∀ i, ac i → i < n) (hB : gm_Bd Q ac) {p d : gm_V}
    (hp : gm_In Q ac p) (hw : d.2.2.2 = 0) (hd : d ≠ (0, 0, 0, 0)) :
    ∃ i, ac i ∧ 0 < gm_ev (Q i) d ∧ gm_In Q ac (gm_lc (gm_ev (Q i) d) p (-gm_ev (Q i) p) d) := by
  have hex : ∃ i, i < n ∧ (ac i ∧ 0 < gm_ev (Q i) d) := by
    apply Classical.byContradiction
    intro hn
    apply hd
    apply hB d hw
    intro i hi
    rcases Int.lt_or_le 0 (gm_ev (Q i) d) with h1 | h1
    · exact absurd ⟨i, hac i hi, hi, h1⟩ hn
    · exact h1
  obtain ⟨i, _, ⟨hi, hpos⟩, hm⟩ := gm_min (fun i => -gm_ev (Q i) p) (fun i => gm_ev (Q i) d) _ n (fun i _ h => h.2) hex
  refine ⟨i, hi, hpos, fun j hj => ?_⟩
  rw [gm_ev_lc]
  have hpi := hp i hi
  have hpj := hp j hj
  rcases Int.lt_or_le 0 (gm_ev (Q j) d) with h1 | h1
  · have h2 := hm j (hac j hj) ⟨hj, h1⟩
    have e : gm_ev (Q i) d * gm_ev (Q j) p = -(-gm_ev (Q j) p * gm_ev (Q i) d) := by grind
    rw [e]; omega
  · have h2 := gm_np (Int.le_of_lt hpos) hpj
    have h3 := gm_np (a := -gm_ev (Q i) p) (by omega) h1
    omega

theorem gm_perp (a : gm_V) : ∃ e : gm_V, e.2.2.2 = 0 ∧ e ≠ (0, 0, 0, 0) ∧ gm_ev a e = 0 ∧
    ∀ b : gm_V, gm_cr a b = (0, 0, 0, 0) → (a.1 = 0 ∧ a.2.1 = 0 ∧ a.2.2.1 = 0 → b.1 = 0 ∧ b.2.1 = 0 ∧ b.2.2.1 = 0) → gm_ev b e = 0 := by
  obtain ⟨a1, a2, a3, a4⟩ := a
  by_cases h : a1 = 0 ∧ a2 = 0
  · obtain ⟨h1, h2⟩ := h
    subst h1 h2
    refine ⟨(1, 0, 0, 0), rfl, by simp, by simp [gm_ev], fun b hb hz => ?_⟩
    obtain ⟨b1, b2, b3, b4⟩ := b
    simp only [gm_cr, Prod.mk.injEq] at hb
    simp only [gm_ev]
    by_cases h3 : a3 = 0
    · have := (hz ⟨rfl, rfl, h3⟩).1
      dsimp only at this
      subst this; simp
    · have h4 : a3 * b1 = 0 := by grind
      have h5 := (Int.mul_eq_zero.mp h4).resolve_left h3
      subst h5; simp
  · refine ⟨(a2, -a1, 0, 0), rfl, ?_, ?_, fun b hb hz => ?_⟩
    · intro e
      simp only [Prod.mk.injEq] at e
      apply h
      omega
    · simp only [gm_ev]; grind
    · obtain ⟨b1, b2, b3, b4⟩ := b
      simp only [gm_cr, Prod.mk.injEq] at hb
      simp only [gm_ev]; grind

theorem gm_ev_cr (a b c : gm_V) : gm_ev c (gm_cr a b) = gm_dt c a b := by
  simp only [gm_ev, gm_cr, gm_dt]; grind

theorem gm_ker (Q : Nat → gm_V) (T : Nat → Prop) (h : ∀ i j k, T i → T j → T k → gm_dt (Q i) (Q j) (Q k) = 0) :
    ∃ d : gm_V, d.2.2.2 = 0 ∧ d ≠ (0, 0, 0, 0) ∧ ∀ i, T i → gm_ev (Q i) d = 0 := by
  by_cases hc : ∃ i j, T i ∧ T j ∧ gm_cr (Q i) (Q j) ≠ (0, 0, 0, 0)
  · obtain ⟨i, j, hi, hj, hn⟩ := hc
    exact ⟨gm_cr (Q i) (Q j), rfl, hn, fun k hk => by rw [gm_ev_cr]; exact h k i j hk hi hj⟩
  · have hc' : ∀ i j, T i → T j → gm_cr (Q i) (Q j) = (0, 0, 0, 0) := fun i j hi hj =>
      Classical.byContradiction fun hn => hc ⟨i, j, hi, hj, hn⟩
    by_cases hz : ∃ i, T i ∧ ¬ ((Q i).1 = 0 ∧ (Q i).2.1 = 0 ∧ (Q i).2.2.1 = 0)
    · obtain ⟨i, hi, hni⟩ := hz
      obtain ⟨e, h1, h2, _, h4⟩ := gm_perp (Q i)
      exact ⟨e, h1, h2, fun j hj => h4 (Q j) (hc' i j hi hj) (fun hh => absurd hh hni)⟩
    · refine ⟨(1, 0, 0, 0), rfl, by simp, fun j hj => ?_⟩
      have : (Q j).1 = 0 ∧ (Q j).2.1 = 0 ∧ (Q j).2.2.1 = 0 := Classical.byContradiction fun hn => hz ⟨j, hj, hn⟩
      simp [gm_ev, this.1]

theorem gm_neg_ev (a d : gm_V) : gm_ev a (gm_lc (-1) d 0 d) = -gm_ev a d := by rw [gm_ev_lc]; omega
theorem gm_neg_nz {d : gm_V} (h : d ≠ (0, 0, 0, 0)) : gm_lc (-1) d 0 d ≠ (0, 0, 0, 0) := by
  intro e
  apply h
  obtain ⟨x, y, z, w⟩ := d
  simp only [gm_lc, Prod.mk.injEq] at e ⊢
  omega
theorem gm_neg_w {d : gm_V} (h : d.2.2.2 = 0) : (gm_lc (-1) d 0 d).2.2.2 = 0 := by rw [gm_w_lc, h]; rfl

theorem gm_ker_f (Q : Nat → gm_V) (T : Nat → Prop) (f : gm_V) (h : ∀ i j k, T i → T j → T k → gm_dt (Q i) (Q j) (Q k) = 0) :
    ∃ d : gm_V, d.2.2.2 = 0 ∧ d ≠ (0, 0, 0, 0) ∧ (∀ i, T i → gm_ev (Q i) d = 0) ∧ 0 ≤ gm_ev f d := by
  obtain ⟨d, h1, h2, h3⟩ := gm_ker Q T h
  rcases Int.lt_or_le (gm_ev f d) 0 with hn | hp
  · refine ⟨gm_lc (-1) d 0 d, gm_neg_w h1, gm_neg_nz h2, fun i hi => ?_, ?_⟩
    · rw [gm_neg_ev, h3 i hi]; rfl
    · rw [gm_neg_ev]; omega
  · exact ⟨d, h1, h2, h3, hp⟩

/-- from a point of the body to a corner that lies in all its planes and is at least as far along f -/
theorem gm_lp {Q : Nat → gm_V} {ac : Nat → Prop} {n : Nat} (hac : ∀ i, ac i → i < n) (hB : gm_Bd Q ac) (f : gm_V) :
    ∀ (m : Nat) (p : gm_V), gm_In Q ac p → 0 < p.2.2.2 → gm_cn (fun i => ac i ∧ gm_ev (Q i) p ≠ 0) n ≤ m →
    ∃ u, gm_Vx Q ac u ∧ (∀ i, ac i → gm_ev (Q i) p = 0 → gm_ev (Q i) u = 0) ∧ gm_ev f p * u.2.2.2 ≤ gm_ev f u * p.2.2.2 := by
  intro m
  induction m with
  | zero =>
    intro p hp hw hm
    by_cases h3 : ∃ i j k, ac i ∧ ac j ∧ ac k ∧ gm_dt (Q i) (Q j) (Q k) ≠ 0 ∧ gm_ev (Q i) p = 0 ∧ gm_ev (Q j) p = 0 ∧ gm_ev (Q k) p = 0
    · exact ⟨p, ⟨hw, hp, h3⟩, fun _ _ h => h, Int.le_refl _⟩
    · exfalso
      obtain ⟨d, hd0, hdz, hk, hf⟩ := gm_ker_f Q (fun i => ac i ∧ gm_ev (Q i) p = 0) f (fun i j k hi hj hk =>
        Classical.byContradiction fun hn => h3 ⟨i, j, k, hi.1, hj.1, hk.1, hn, hi.2, hj.2, hk.2⟩)
      obtain ⟨i, hi, hpos, _⟩ := gm_move hac hB hp hd0 hdz
      have hne : gm_ev (Q i) p ≠ 0 := by
        intro e
        have := hk i ⟨hi, e⟩
        omega
      have := gm_cn_lt (P := fun _ => False) (P' := fun i => ac i ∧ gm_ev (Q i) p ≠ 0) n (fun _ _ h => h.elim) ⟨i, hac i hi, ⟨hi, hne⟩, fun h => h⟩
      omega
  | succ m ih =>
    intro p hp hw hm
    by_cases h3 : ∃ i j k, ac i ∧ ac j ∧ ac k ∧ gm_dt (Q i) (Q j) (Q k) ≠ 0 ∧ gm_ev (Q i) p = 0 ∧ gm_ev (Q j) p = 0 ∧ gm_ev (Q k) p = 0
    · exact ⟨p, ⟨hw, hp, h3⟩, fun _ _ h => h, Int.le_refl _⟩
    · obtain ⟨d, hd0, hdz, hk, hf⟩ := gm_ker_f Q (fun i => ac i ∧ gm_ev (Q i) p = 0) f (fun i j k hi hj hk =>
        Classical.byContradiction fun hn => h3 ⟨i, j, k, hi.1, hj.1, hk.1, hn, hi.2, hj.2, hk.2⟩)
      obtain ⟨i, hi, hpos, hin⟩ := gm_move hac hB hp hd0 hdz
      have hne : gm_ev (Q i) p ≠ 0 := by
        intro e
        have := hk i ⟨hi, e⟩
        omega
      have hr : 0 ≤ -gm_ev (Q i) p := by have := hp i hi; omega
      have hw' : (gm_lc (gm_ev (Q i) d) p (-gm_ev (Q i) p) d).2.2.2 = gm_ev (Q i) d * p.2.2.2 := by
        rw [gm_w_lc, hd0]; simp
      have hkeep : ∀ j, ac j → gm_ev (Q j) p = 0 → gm_ev (Q j) (gm_lc (gm_ev (Q i) d) p (-gm_ev (Q i) p) d) = 0 := by
        intro j hj e
        rw [gm_ev_lc, e, hk j ⟨hj, e⟩]; simp
      have hti : gm_ev (Q i) (gm_lc (gm_ev (Q i) d) p (-gm_ev (Q i) p) d) = 0 := by
        rw [gm_ev_lc]; grind
      have hlt := gm_cn_lt (P := fun j => ac j ∧ gm_ev (Q j) (gm_lc (gm_ev (Q i) d) p (-gm_ev (Q i) p) d) ≠ 0)
        (P' := fun j => ac j ∧ gm_ev (Q j) p ≠ 0) n
        (fun j _ h => ⟨h.1, fun e => h.2 (hkeep j h.1 e)⟩) ⟨i, hac i hi, ⟨hi, hne⟩, fun h => h.2 hti⟩
      obtain ⟨u, hu, ht, hle⟩ := ih _ hin (by rw [hw']; exact gm_pp hpos hw) (by omega)
      refine ⟨u, hu, fun j hj e => ht j hj (hkeep j hj e), ?_⟩
      rw [hw', gm_ev_lc] at hle
      apply gm_mul_cancel hpos
      have h5 : 0 ≤ -gm_ev (Q i) p * gm_ev f d * u.2.2.2 := gm_nn (gm_nn hr hf) (Int.le_of_lt hu.1)
      have e1 : (gm_ev (Q i) d * gm_ev f p + -gm_ev (Q i) p * gm_ev f d) * u.2.2.2
        = gm_ev (Q i) d * (gm_ev f p * u.2.2.2) + -gm_ev (Q i) p * gm_ev f d * u.2.2.2 := by grind
      have e2 : gm_ev f u * (gm_ev (Q i) d * p.2.2.2) = gm_ev (Q i) d * (gm_ev f u * p.2.2.2) := by grind
      rw [e1, e2] at hle
      omega

theorem gm_lp' {Q : Nat → gm_V} {ac : Nat → Prop} {n : Nat} (hac : ∀ i, ac i → i < n) (hB : gm_Bd Q ac) (f : gm_V)
    (p : gm_V) (hp : gm_In Q ac p) (hw : 0 < p.2.2.2) :
    ∃ u, gm_Vx Q ac u ∧ (∀ i, ac i → gm_ev (Q i) p = 0 → gm_ev (Q i) u = 0) ∧ gm_ev f p * u.2.2.2 ≤ gm_ev f u * p.2.2.2 :=
  gm_lp hac hB f _ p hp hw (Nat.le_refl _)
end
end
section
/-! Third corner of a face, no three corners on a line, a better neighbour, at most two corners a plane -/
section
theorem gm_sn (a : Int) : 0 ≤ a * a := by
  rcases Int.le_total 0 a with h | h
  · exact Int.mul_nonneg h h
  · exact Int.mul_nonneg_of_nonpos_of_nonpos h h
theorem gm_sq (a b c : Int) (h : a * a + b * b + c * c = 0) : a = 0 ∧ b = 0 ∧ c = 0 := by
  have h1 : 0 ≤ a * a := gm_sn a
  have h2 : 0 ≤ b * b := gm_sn b
  have h3 : 0 ≤ c * c := gm_sn c
  have e1 : a * a = 0 := by omega
  have e2 : b * b = 0 := by omega
  have e3 : c * c = 0 := by omega
  exact ⟨(Int.mul_eq_zero.mp e1).elim id id, (Int.mul_eq_zero.mp e2).elim id id, (Int.mul_eq_zero.mp e3).elim id id⟩

theorem gm_self {e : gm_V} (hw : e.2.2.2 = 0) (h : e ≠ (0, 0, 0, 0)) : 0 < gm_ev e e := by
  obtain ⟨x, y, z, w⟩ := e
  dsimp only at hw
  subst hw
  simp only [gm_ev]
  have h1 : 0 ≤ x * x := gm_sn x
  have h2 : 0 ≤ y * y := gm_sn y
  have h3 : 0 ≤ z * z := gm_sn z
  rcases Int.lt_or_le 0 (x * x + y * y + z * z - 0 * 0) with h4 | h4
  · exact h4
  · exfalso
    obtain ⟨a, b, c⟩ := gm_sq x y z (by omega)
    apply h
    rw [a, b, c]

/-- the crossing of two rows, as a third row -/
theorem gm_dt_cr (a b : gm_V) : gm_dt a b (gm_cr a b) = gm_ev (gm_cr a b) (gm_cr a b) := by
  simp only [gm_dt, gm_cr, gm_ev]; grind
theorem gm_par {a b s : gm_V} (hc : gm_cr a b ≠ (0, 0, 0, 0)) (hw : s.2.2.2 = 0) (ha : gm_ev a s = 0) (hb : gm_ev b s = 0)
    (h : gm_ev (gm_cr a b) s = 0) : s = (0, 0, 0, 0) := by
  refine gm_cramer (a := a) (b := b) (c := gm_cr a b) ?_ hw ha hb h
  rw [gm_dt_cr]
  have := gm_self (e := gm_cr a b) rfl hc
  omega

/-- a corner that is a mean of two points of the body is both -/
theorem gm_mid {Q : Nat → gm_V} {ac : Nat → Prop} {v p q : gm_V} (hv : gm_Vx Q ac v) (hp : gm_In Q ac p) (hq : gm_In Q ac q)
    {g s t : Int} (hs : 0 < s) (ht : 0 < t) (e : gm_lc s p t q = gm_lc g v 0 v) : gm_pr p v ∧ gm_pr q v := by
  have key : ∀ i, ac i → gm_ev (Q i) v = 0 → gm_ev (Q i) p = 0 ∧ gm_ev (Q i) q = 0 := by
    intro i hi hz
    have h1 : gm_ev (Q i) (gm_lc s p t q) = gm_ev (Q i) (gm_lc g v 0 v) := by rw [e]
    rw [gm_ev_lc, gm_ev_lc, hz] at h1
    have a1 := hp i hi
    have a2 := hq i hi
    have b1 := gm_np (Int.le_of_lt hs) a1
    have b2 := gm_np (Int.le_of_lt ht) a2
    have c1 : s * gm_ev (Q i) p = 0 := by omega
    have c2 : t * gm_ev (Q i) q = 0 := by omega
    exact ⟨(Int.mul_eq_zero.mp c1).resolve_left (by omega), (Int.mul_eq_zero.mp c2).resolve_left (by omega)⟩
  obtain ⟨_, _, i, j, k, hi, hj, hk, hd, ei, ej, ek⟩ := hv
  exact ⟨gm_uniq hd (key i hi ei).1 (key j hj ej).1 (key k hk ek).1 ei ej ek, gm_uniq hd (key i hi ei).2 (key j hj ej).2 (key k hk ek).2 ei ej ek⟩

/-- a linear tie of three, from the two rows that all three keep -/
theorem gm_tie {a b p q r : gm_V} (hc : gm_cr a b ≠ (0, 0, 0, 0)) (hp : gm_ev a p = 0 ∧ gm_ev b p = 0) (hq : gm_ev a q = 0 ∧ gm_ev b q = 0)
    (hr : gm_ev a r = 0 ∧ gm_ev b r = 0) :
    gm_lc 1 (gm_lc (gm_ev (gm_cr a b) q * r.2.2.2 - gm_ev (gm_cr a b) r * q.2.2.2) p (gm_ev (gm_cr a b) r * p.2.2.2 - gm_ev (gm_cr a b) p * r.2.2.2) q)
      (gm_ev (gm_cr a b) p * q.2.2.2 - gm_ev (gm_cr a b) q * p.2.2.2) r = (0, 0, 0, 0) := by
  apply gm_par hc
  · rw [gm_w_lc, gm_w_lc]; grind
  · rw [gm_ev_lc, gm_ev_lc, hp.1, hq.1, hr.1]; simp
  · rw [gm_ev_lc, gm_ev_lc, hp.2, hq.2, hr.2]; simp
  · rw [gm_ev_lc, gm_ev_lc]; grind

theorem gm_tie0 {a b p q : gm_V} (hc : gm_cr a b ≠ (0, 0, 0, 0)) (hp : gm_ev a p = 0 ∧ gm_ev b p = 0) (hq : gm_ev a q = 0 ∧ gm_ev b q = 0)
    (h : gm_ev (gm_cr a b) p * q.2.2.2 - gm_ev (gm_cr a b) q * p.2.2.2 = 0) : gm_pr p q := by
  apply gm_pr_of
  apply gm_par hc
  · rw [gm_w_lc]; grind
  · rw [gm_ev_lc, hp.1, hq.1]; simp
  · rw [gm_ev_lc, hp.2, hq.2]; simp
  · rw [gm_ev_lc]; grind

theorem gm_lc_flip {s t g : Int} {p q v : gm_V} (h : gm_lc 1 (gm_lc s p t q) g v = (0, 0, 0, 0)) : gm_lc s p t q = gm_lc (-g) v 0 v ∧ gm_lc (-s) p (-t) q = gm_lc g v 0 v := by
  obtain ⟨p1, p2, p3, p4⟩ := p
  obtain ⟨q1, q2, q3, q4⟩ := q
  obtain ⟨v1, v2, v3, v4⟩ := v
  simp only [gm_lc, Prod.mk.injEq] at h ⊢
  obtain ⟨h1, h2, h3, h4⟩ := h
  refine ⟨⟨?_, ?_, ?_, ?_⟩, ?_, ?_, ?_, ?_⟩ <;> grind

theorem gm_mid2 {Q : Nat → gm_V} {ac : Nat → Prop} {v p q : gm_V} (hv : gm_Vx Q ac v) (hp : gm_In Q ac p) (hq : gm_In Q ac q)
    {g s t : Int} (h : (0 < s ∧ 0 < t) ∨ (s < 0 ∧ t < 0)) (e : gm_lc 1 (gm_lc s p t q) g v = (0, 0, 0, 0)) : gm_pr p v ∧ gm_pr q v := by
  obtain ⟨e1, e2⟩ := gm_lc_flip e
  rcases h with ⟨h1, h2⟩ | ⟨h1, h2⟩
  · exact gm_mid hv hp hq h1 h2 e1
  · exact gm_mid hv hp hq (s := -s) (t := -t) (by omega) (by omega) e2

theorem gm_rot {s t g : Int} {p q r : gm_V} (h : gm_lc 1 (gm_lc s p t q) g r = (0, 0, 0, 0)) : gm_lc 1 (gm_lc t q g r) s p = (0, 0, 0, 0) := by
  obtain ⟨p1, p2, p3, p4⟩ := p
  obtain ⟨q1, q2, q3, q4⟩ := q
  obtain ⟨v1, v2, v3, v4⟩ := r
  simp only [gm_lc, Prod.mk.injEq] at h ⊢
  obtain ⟨h1, h2, h3, h4⟩ := h
  refine ⟨?_, ?_, ?_, ?_⟩ <;> grind

/-- no three corners lie in two planes that cross -/
theorem gm_col {Q : Nat → gm_V} {ac : Nat → Prop} {a b p q r : gm_V} (hc : gm_cr a b ≠ (0, 0, 0, 0))
    (hp : gm_Vx Q ac p) (hq : gm_Vx Q ac q) (hr : gm_Vx Q ac r)
    (tp : gm_ev a p = 0 ∧ gm_ev b p = 0) (tq : gm_ev a q = 0 ∧ gm_ev b q = 0) (tr : gm_ev a r = 0 ∧ gm_ev b r = 0)
    (npq : ¬ gm_pr p q) (nqr : ¬ gm_pr q r) (nrp : ¬ gm_pr r p) : False := by
  have T := gm_tie hc tp tq tr
  have n1 := fun h => nqr (gm_tie0 hc tq tr h)
  have n2 := fun h => nrp (gm_tie0 hc tr tp h)
  have n3 := fun h => npq (gm_tie0 hc tp tq h)
  have hw : (gm_ev (gm_cr a b) q * r.2.2.2 - gm_ev (gm_cr a b) r * q.2.2.2) * p.2.2.2 + (gm_ev (gm_cr a b) r * p.2.2.2 - gm_ev (gm_cr a b) p * r.2.2.2) * q.2.2.2
      + (gm_ev (gm_cr a b) p * q.2.2.2 - gm_ev (gm_cr a b) q * p.2.2.2) * r.2.2.2 = 0 := by grind
  generalize gm_ev (gm_cr a b) q * r.2.2.2 - gm_ev (gm_cr a b) r * q.2.2.2 = al at *
  generalize gm_ev (gm_cr a b) r * p.2.2.2 - gm_ev (gm_cr a b) p * r.2.2.2 = be at *
  generalize gm_ev (gm_cr a b) p * q.2.2.2 - gm_ev (gm_cr a b) q * p.2.2.2 = ga at *
  have wp := hp.1
  have wq := hq.1
  have wr := hr.1
  have m1 : al ≠ 0 := n1
  have m2 : be ≠ 0 := n2
  have m3 : ga ≠ 0 := n3
  by_cases c1 : (0 < al ∧ 0 < be) ∨ (al < 0 ∧ be < 0)
  · exact nrp (gm_pr_symm (gm_mid2 hr hp.2.1 hq.2.1 c1 T).1)
  · by_cases c2 : (0 < be ∧ 0 < ga) ∨ (be < 0 ∧ ga < 0)
    · exact npq (gm_pr_symm (gm_mid2 hp hq.2.1 hr.2.1 c2 (gm_rot T)).1)
    · have c3 : (0 < ga ∧ 0 < al) ∨ (ga < 0 ∧ al < 0) := by omega
      exact nqr (gm_pr_symm (gm_mid2 hq hr.2.1 hp.2.1 c3 (gm_rot (gm_rot T))).1)

theorem gm_cr_perp {a e : gm_V} (ha : ¬ (a.1 = 0 ∧ a.2.1 = 0 ∧ a.2.2.1 = 0)) (hw : e.2.2.2 = 0) (h0 : gm_ev a e = 0) (hc : gm_cr a e = (0, 0, 0, 0)) :
    e = (0, 0, 0, 0) := by
  obtain ⟨a1, a2, a3, a4⟩ := a
  obtain ⟨x, y, z, w⟩ := e
  dsimp only at hw ha
  subst hw
  simp only [gm_ev, gm_cr, Prod.mk.injEq] at h0 hc
  obtain ⟨h1, h2, h3, _⟩ := hc
  have hs : a1 * a1 + a2 * a2 + a3 * a3 ≠ 0 := fun h => ha (gm_sq _ _ _ h)
  have ex : (a1 * a1 + a2 * a2 + a3 * a3) * x = 0 := by grind
  have ey : (a1 * a1 + a2 * a2 + a3 * a3) * y = 0 := by grind
  have ez : (a1 * a1 + a2 * a2 + a3 * a3) * z = 0 := by grind
  rw [(Int.mul_eq_zero.mp ex).resolve_left hs, (Int.mul_eq_zero.mp ey).resolve_left hs, (Int.mul_eq_zero.mp ez).resolve_left hs]

theorem gm_ev_cr0 {a b c : gm_V} (h : gm_cr a b = (0, 0, 0, 0)) : gm_ev b (gm_cr a c) = 0 := by
  simp only [gm_cr, Prod.mk.injEq] at h
  obtain ⟨h1, h2, h3, _⟩ := h
  simp only [gm_ev, gm_cr]; grind
theorem gm_ev_cra (a c : gm_V) : gm_ev a (gm_cr a c) = 0 := by simp only [gm_ev, gm_cr]; grind
theorem gm_ev_crb {a c : gm_V} (hc : c.2.2.2 = 0) : gm_ev c (gm_cr a c) = 0 := by simp only [gm_ev, gm_cr]; grind
theorem gm_ev_sym {a c : gm_V} (ha : a.2.2.2 = 0) (hc : c.2.2.2 = 0) : gm_ev c a = gm_ev a c := by simp only [gm_ev, ha, hc]; grind

/-- two corners whose common planes do not cross share them with a third corner -/
theorem gm_third {Q : Nat → gm_V} {ac : Nat → Prop} {n : Nat} (hac : ∀ i, ac i → i < n) (hB : gm_Bd Q ac) {v u : gm_V}
    (hv : gm_Vx Q ac v) (hu : gm_Vx Q ac u) (hne : ¬ gm_pr v u)
    (hS : ∀ i j, ac i → ac j → gm_ev (Q i) v = 0 → gm_ev (Q i) u = 0 → gm_ev (Q j) v = 0 → gm_ev (Q j) u = 0 → gm_cr (Q i) (Q j) = (0, 0, 0, 0)) :
    ∃ t, gm_Vx Q ac t ∧ (∀ i, ac i → gm_ev (Q i) v = 0 → gm_ev (Q i) u = 0 → gm_ev (Q i) t = 0) ∧ ¬ gm_pr t v ∧ ¬ gm_pr t u := by
  have hD : gm_lc u.2.2.2 v (-v.2.2.2) u ≠ (0, 0, 0, 0) := fun h => hne (gm_pr_of h)
  have hDw : (gm_lc u.2.2.2 v (-v.2.2.2) u).2.2.2 = 0 := by rw [gm_w_lc]; grind
  have hDe : ∀ i, gm_ev (Q i) v = 0 → gm_ev (Q i) u = 0 → gm_ev (Q i) (gm_lc u.2.2.2 v (-v.2.2.2) u) = 0 := by
    intro i h1 h2
    rw [gm_ev_lc, h1, h2]; simp
  have hE : ∃ e : gm_V, e.2.2.2 = 0 ∧ e ≠ (0, 0, 0, 0) ∧ gm_ev e (gm_lc u.2.2.2 v (-v.2.2.2) u) = 0 ∧
      ∀ i, ac i → gm_ev (Q i) v = 0 → gm_ev (Q i) u = 0 → gm_ev (Q i) e = 0 := by
    generalize gm_lc u.2.2.2 v (-v.2.2.2) u = D at *
    by_cases hz : ∃ i, ac i ∧ gm_ev (Q i) v = 0 ∧ gm_ev (Q i) u = 0 ∧ ¬ ((Q i).1 = 0 ∧ (Q i).2.1 = 0 ∧ (Q i).2.2.1 = 0)
    · obtain ⟨i, hi, h1, h2, hn⟩ := hz
      refine ⟨gm_cr (Q i) D, rfl, fun h => hD (gm_cr_perp hn hDw (hDe i h1 h2) h), ?_, fun j hj h3 h4 => ?_⟩
      · rw [gm_ev_sym hDw rfl]; exact gm_ev_crb hDw
      · exact gm_ev_cr0 (hS i j hi hj h1 h2 h3 h4)
    · obtain ⟨e, h1, h2, h3, _⟩ := gm_perp D
      refine ⟨e, h1, h2, ?_, fun j hj h4 h5 => ?_⟩
      · rw [gm_ev_sym hDw h1]; exact h3
      · have : (Q j).1 = 0 ∧ (Q j).2.1 = 0 ∧ (Q j).2.2.1 = 0 := Classical.byContradiction fun hn => hz ⟨j, hj, h4, h5, hn⟩
        simp [gm_ev, this.1, this.2.1, this.2.2, h1]
  obtain ⟨e, he0, hez, heD, hek⟩ := hE
  have hm : gm_In Q ac (gm_lc 1 v 1 u) := by
    intro i hi
    have a := hv.2.1 i hi
    have b := hu.2.1 i hi
    rw [gm_ev_lc]; omega
  have hmw : (gm_lc 1 v 1 u).2.2.2 = v.2.2.2 + u.2.2.2 := by rw [gm_w_lc]; omega
  obtain ⟨i, hi, hpos, hin⟩ := gm_move hac hB hm he0 hez
  have hiv := hv.2.1 i hi
  have hiu := hu.2.1 i hi
  have him : gm_ev (Q i) (gm_lc 1 v 1 u) = gm_ev (Q i) v + gm_ev (Q i) u := by rw [gm_ev_lc]; omega
  have hneg : 0 < -gm_ev (Q i) (gm_lc 1 v 1 u) := by
    rcases Int.lt_or_le 0 (-gm_ev (Q i) (gm_lc 1 v 1 u)) with h | h
    · exact h
    · have := hek i hi (by omega) (by omega)
      omega
  have hvw := hv.1
  have huw := hu.1
  have hxw : (gm_lc (gm_ev (Q i) e) (gm_lc 1 v 1 u) (-gm_ev (Q i) (gm_lc 1 v 1 u)) e).2.2.2 = gm_ev (Q i) e * (v.2.2.2 + u.2.2.2) := by
    rw [gm_w_lc, hmw, he0]; simp
  obtain ⟨t, ht, hT, hle⟩ := gm_lp' hac hB e _ hin (by rw [hxw]; exact gm_pp hpos (by omega))
  refine ⟨t, ht, fun j hj h1 h2 => hT j hj ?_, ?_⟩
  · rw [gm_ev_lc, gm_ev_lc, h1, h2, hek j hj h1 h2]; simp
  · have hee := gm_self he0 hez
    have htw := ht.1
    rw [hxw, gm_ev_lc] at hle
    have hem : gm_ev e (gm_lc 1 v 1 u) = gm_ev e v + gm_ev e u := by rw [gm_ev_lc]; omega
    have heD' : u.2.2.2 * gm_ev e v = v.2.2.2 * gm_ev e u := by
      rw [gm_ev_lc] at heD
      have e3 : -v.2.2.2 * gm_ev e u = -(v.2.2.2 * gm_ev e u) := by grind
      omega
    have hlt : (gm_ev e v + gm_ev e u) * t.2.2.2 < gm_ev e t * (v.2.2.2 + u.2.2.2) := by
      apply gm_mul_cancel_lt hpos
      have e1 : gm_ev e t * (gm_ev (Q i) e * (v.2.2.2 + u.2.2.2)) = gm_ev (Q i) e * (gm_ev e t * (v.2.2.2 + u.2.2.2)) := by grind
      have e2 : (gm_ev (Q i) e * gm_ev e (gm_lc 1 v 1 u) + -gm_ev (Q i) (gm_lc 1 v 1 u) * gm_ev e e) * t.2.2.2
        = gm_ev (Q i) e * ((gm_ev e v + gm_ev e u) * t.2.2.2) + -gm_ev (Q i) (gm_lc 1 v 1 u) * gm_ev e e * t.2.2.2 := by rw [hem]; grind
      have h6 : 0 < -gm_ev (Q i) (gm_lc 1 v 1 u) * gm_ev e e * t.2.2.2 := gm_pp (gm_pp hneg hee) htw
      rw [e1, e2] at hle
      omega
    constructor
    · intro hp
      have h7 := gm_pr_ev hp e
      have h8 := Int.mul_lt_mul_of_pos_left hlt hvw
      have e4 : v.2.2.2 * ((gm_ev e v + gm_ev e u) * t.2.2.2) = v.2.2.2 * (gm_ev e t * (v.2.2.2 + u.2.2.2)) := by grind
      omega
    · intro hp
      have h7 := gm_pr_ev hp e
      have h8 := Int.mul_lt_mul_of_pos_left hlt huw
      have e4 : u.2.2.2 * ((gm_ev e v + gm_ev e u) * t.2.2.2) = u.2.2.2 * (gm_ev e t * (v.2.2.2 + u.2.2.2)) := by grind
      omega
end
end
section
/-! A better neighbour; each corner is first or last in one of its planes -/
section
theorem gm_tilt {Q : Nat → gm_V} {ac : Nat → Prop} {n : Nat} (hac : ∀ i, ac i → i < n) {v d e f : gm_V}
    (hd0 : d.2.2.2 = 0) (hd : ∀ j, ac j → gm_ev (Q j) v = 0 → gm_ev (Q j) d ≤ 0) (hf : 0 < gm_ev f d)
    (he0 : e.2.2.2 = 0) (hfe : 0 ≤ gm_ev f e) (hS : ∀ j, ac j → gm_ev (Q j) v = 0 → gm_ev (Q j) d = 0 → gm_ev (Q j) e = 0)
    (hex : ∃ j, ac j ∧ gm_ev (Q j) v = 0 ∧ 0 < gm_ev (Q j) e) :
    ∃ d' : gm_V, d'.2.2.2 = 0 ∧ (∀ j, ac j → gm_ev (Q j) v = 0 → gm_ev (Q j) d' ≤ 0) ∧ 0 < gm_ev f d' ∧
      (∀ j, ac j → gm_ev (Q j) v = 0 → gm_ev (Q j) d = 0 → gm_ev (Q j) d' = 0) ∧
      ∃ j, ac j ∧ gm_ev (Q j) v = 0 ∧ gm_ev (Q j) d' = 0 ∧ gm_ev (Q j) d ≠ 0 := by
  obtain ⟨j0, hj0⟩ := hex
  obtain ⟨i, _, ⟨hi, hiv, hpos⟩, hm⟩ := gm_min (fun i => -gm_ev (Q i) d) (fun i => gm_ev (Q i) e)
    (fun j => ac j ∧ gm_ev (Q j) v = 0 ∧ 0 < gm_ev (Q j) e) n (fun i _ h => h.2.2) ⟨j0, hac j0 hj0.1, hj0⟩
  have hdi := hd i hi hiv
  refine ⟨gm_lc (gm_ev (Q i) e) d (-gm_ev (Q i) d) e, ?_, fun j hj hv => ?_, ?_, fun j hj hv hz => ?_, i, hi, hiv, ?_, ?_⟩
  · rw [gm_w_lc, hd0, he0]; simp
  · rw [gm_ev_lc]
    have hdj := hd j hj hv
    rcases Int.lt_or_le 0 (gm_ev (Q j) e) with h1 | h1
    · have h2 := hm j (hac j hj) ⟨hj, hv, h1⟩
      have e1 : gm_ev (Q i) e * gm_ev (Q j) d = -(-gm_ev (Q j) d * gm_ev (Q i) e) := by grind
      rw [e1]; omega
    · have h2 := gm_np (Int.le_of_lt hpos) hdj
      have h3 := gm_np (a := -gm_ev (Q i) d) (by omega) h1
      omega
  · rw [gm_ev_lc]
    have h1 := gm_pp hpos hf
    have h2 := gm_nn (a := -gm_ev (Q i) d) (by omega) hfe
    omega
  · rw [gm_ev_lc, hz, hS j hj hv hz]; simp
  · rw [gm_ev_lc]; grind
  · intro hz
    have := hS i hi hiv hz
    omega

theorem gm_dt0 {s a b c : gm_V} (hs : ¬ (s.1 = 0 ∧ s.2.1 = 0 ∧ s.2.2.1 = 0)) (ha : gm_cr s a = (0, 0, 0, 0)) (hb : gm_cr s b = (0, 0, 0, 0)) :
    gm_dt a b c = 0 := by
  obtain ⟨s1, s2, s3, s4⟩ := s
  obtain ⟨a1, a2, a3, a4⟩ := a
  obtain ⟨b1, b2, b3, b4⟩ := b
  obtain ⟨c1, c2, c3, c4⟩ := c
  simp only [gm_cr, gm_dt, Prod.mk.injEq] at *
  obtain ⟨x1, x2, x3, _⟩ := ha
  obtain ⟨y1, y2, y3, _⟩ := hb
  have hq : s1 * s1 + s2 * s2 + s3 * s3 ≠ 0 := fun h => hs (gm_sq _ _ _ h)
  have k1 : (s1 * s1 + s2 * s2 + s3 * s3) * (a2 * b3 - a3 * b2) = 0 := by grind
  have k2 : (s1 * s1 + s2 * s2 + s3 * s3) * (a1 * b3 - a3 * b1) = 0 := by grind
  have k3 : (s1 * s1 + s2 * s2 + s3 * s3) * (a1 * b2 - a2 * b1) = 0 := by grind
  have l1 := (Int.mul_eq_zero.mp k1).resolve_left hq
  have l2 := (Int.mul_eq_zero.mp k2).resolve_left hq
  have l3 := (Int.mul_eq_zero.mp k3).resolve_left hq
  grind

theorem gm_dir {Q : Nat → gm_V} {ac : Nat → Prop} {n : Nat} (hac : ∀ i, ac i → i < n) {v d f : gm_V} (hv : gm_Vx Q ac v)
    (hd0 : d.2.2.2 = 0) (hd : ∀ j, ac j → gm_ev (Q j) v = 0 → gm_ev (Q j) d ≤ 0) (hf : 0 < gm_ev f d)
    (hS : ∀ i j, ac i → ac j → gm_ev (Q i) v = 0 → gm_ev (Q i) d = 0 → gm_ev (Q j) v = 0 → gm_ev (Q j) d = 0 → gm_cr (Q i) (Q j) = (0, 0, 0, 0)) :
    ∃ d' : gm_V, d'.2.2.2 = 0 ∧ (∀ j, ac j → gm_ev (Q j) v = 0 → gm_ev (Q j) d' ≤ 0) ∧ 0 < gm_ev f d' ∧
      (∀ j, ac j → gm_ev (Q j) v = 0 → gm_ev (Q j) d = 0 → gm_ev (Q j) d' = 0) ∧
      ∃ j, ac j ∧ gm_ev (Q j) v = 0 ∧ gm_ev (Q j) d' = 0 ∧ gm_ev (Q j) d ≠ 0 := by
  obtain ⟨_, _, i1, i2, i3, h1, h2, h3, hdt, e1, e2, e3⟩ := hv
  have hE : ∃ (i : Nat) (e : gm_V), (ac i ∧ gm_ev (Q i) v = 0 ∧ gm_ev (Q i) d ≠ 0) ∧ e.2.2.2 = 0 ∧ e ≠ (0, 0, 0, 0) ∧ gm_ev (Q i) e = 0 ∧
      ∀ j, ac j → gm_ev (Q j) v = 0 → gm_ev (Q j) d = 0 → gm_ev (Q j) e = 0 := by
    by_cases hz : ∃ s, ac s ∧ gm_ev (Q s) v = 0 ∧ gm_ev (Q s) d = 0 ∧ ¬ ((Q s).1 = 0 ∧ (Q s).2.1 = 0 ∧ (Q s).2.2.1 = 0)
    · obtain ⟨s, hs, sv, sd, sn⟩ := hz
      have hi : ∃ i, ac i ∧ gm_ev (Q i) v = 0 ∧ gm_cr (Q s) (Q i) ≠ (0, 0, 0, 0) := by
        by_cases c1 : gm_cr (Q s) (Q i1) = (0, 0, 0, 0)
        · by_cases c2 : gm_cr (Q s) (Q i2) = (0, 0, 0, 0)
          · exact absurd (gm_dt0 sn c1 c2) hdt
          · exact ⟨i2, h2, e2, c2⟩
        · exact ⟨i1, h1, e1, c1⟩
      obtain ⟨i, hi, iv, ic⟩ := hi
      refine ⟨i, gm_cr (Q s) (Q i), ⟨hi, iv, fun h => ic (hS s i hs hi sv sd iv h)⟩, rfl, ic, ?_, fun j hj jv jd => gm_ev_cr0 (hS s j hs hj sv sd jv jd)⟩
      simp only [gm_ev, gm_cr]; grind
    · have hz' : ∀ s, ac s → gm_ev (Q s) v = 0 → gm_ev (Q s) d = 0 → (Q s).1 = 0 ∧ (Q s).2.1 = 0 ∧ (Q s).2.2.1 = 0 := fun s a b c =>
        Classical.byContradiction fun hn => hz ⟨s, a, b, c, hn⟩
      obtain ⟨e, k1, k2, k3, _⟩ := gm_perp (Q i1)
      refine ⟨i1, e, ⟨h1, e1, fun h => hdt ?_⟩, k1, k2, k3, fun j hj jv jd => ?_⟩
      · obtain ⟨z1, z2, z3⟩ := hz' i1 h1 e1 h
        simp [gm_dt, z1, z2, z3]
      · obtain ⟨z1, z2, z3⟩ := hz' j hj jv jd
        simp [gm_ev, z1, z2, z3, k1]
  obtain ⟨i, e, ⟨hi, iv, id⟩, he0, hez, hie, heS⟩ := hE
  have hnz : ∀ e : gm_V, e.2.2.2 = 0 → e ≠ (0, 0, 0, 0) → ∃ j, ac j ∧ gm_ev (Q j) v = 0 ∧ gm_ev (Q j) e ≠ 0 := by
    intro e he0 hez
    by_cases c1 : gm_ev (Q i1) e = 0
    · by_cases c2 : gm_ev (Q i2) e = 0
      · by_cases c3 : gm_ev (Q i3) e = 0
        · exact absurd (gm_cramer hdt he0 c1 c2 c3) hez
        · exact ⟨i3, h3, e3, c3⟩
      · exact ⟨i2, h2, e2, c2⟩
    · exact ⟨i1, h1, e1, c1⟩
  -- the sign of e
  have hmain : ∀ e : gm_V, e.2.2.2 = 0 → e ≠ (0, 0, 0, 0) → gm_ev (Q i) e = 0 →
      (∀ j, ac j → gm_ev (Q j) v = 0 → gm_ev (Q j) d = 0 → gm_ev (Q j) e = 0) → 0 ≤ gm_ev f e →
      ∃ d' : gm_V, d'.2.2.2 = 0 ∧ (∀ j, ac j → gm_ev (Q j) v = 0 → gm_ev (Q j) d' ≤ 0) ∧ 0 < gm_ev f d' ∧
      (∀ j, ac j → gm_ev (Q j) v = 0 → gm_ev (Q j) d = 0 → gm_ev (Q j) d' = 0) ∧
      ∃ j, ac j ∧ gm_ev (Q j) v = 0 ∧ gm_ev (Q j) d' = 0 ∧ gm_ev (Q j) d ≠ 0 := by
    intro e he0 hez hie heS hfe
    by_cases hx : ∃ j, ac j ∧ gm_ev (Q j) v = 0 ∧ 0 < gm_ev (Q j) e
    · exact gm_tilt hac hd0 hd hf he0 hfe heS hx
    · have hall : ∀ j, ac j → gm_ev (Q j) v = 0 → gm_ev (Q j) e ≤ 0 := by
        intro j hj jv
        rcases Int.lt_or_le 0 (gm_ev (Q j) e) with h | h
        · exact absurd ⟨j, hj, jv, h⟩ hx
        · exact h
      rcases Int.lt_or_le 0 (gm_ev f e) with h | h
      · exact ⟨e, he0, hall, h, heS, i, hi, iv, hie, id⟩
      · obtain ⟨j, hj, jv, jn⟩ := hnz e he0 hez
        have := hall j hj jv
        refine gm_tilt hac hd0 hd hf (e := gm_lc (-1) e 0 e) (gm_neg_w he0) ?_ (fun k hk kv kd => ?_) ⟨j, hj, jv, ?_⟩
        · rw [gm_neg_ev]; omega
        · rw [gm_neg_ev, heS k hk kv kd]; rfl
        · rw [gm_neg_ev]; omega
  rcases Int.lt_or_le (gm_ev f e) 0 with h | h
  · refine hmain (gm_lc (-1) e 0 e) (gm_neg_w he0) (gm_neg_nz hez) ?_ (fun j hj jv jd => ?_) ?_
    · rw [gm_neg_ev, hie]; rfl
    · rw [gm_neg_ev, heS j hj jv jd]; rfl
    · rw [gm_neg_ev]; omega
  · exact hmain e he0 hez hie heS h

/-- a corner that is not farthest along f has a neighbour that is farther -/
theorem gm_up {Q : Nat → gm_V} {ac : Nat → Prop} {n : Nat} (hac : ∀ i, ac i → i < n) (hB : gm_Bd Q ac) (f : gm_V) {v : gm_V} (hv : gm_Vx Q ac v) :
    ∀ (m : Nat) (u : gm_V), gm_Vx Q ac u → gm_ev f v * u.2.2.2 < gm_ev f u * v.2.2.2 →
    gm_cn (fun i => ¬ (ac i ∧ gm_ev (Q i) v = 0 ∧ gm_ev (Q i) u = 0)) n ≤ m →
    ∃ t, gm_Vx Q ac t ∧ gm_ev f v * t.2.2.2 < gm_ev f t * v.2.2.2 ∧ ∃ i j, ac i ∧ ac j ∧ gm_ev (Q i) v = 0 ∧ gm_ev (Q i) t = 0 ∧
      gm_ev (Q j) v = 0 ∧ gm_ev (Q j) t = 0 ∧ gm_cr (Q i) (Q j) ≠ (0, 0, 0, 0) := by
  have step : ∀ u : gm_V, gm_Vx Q ac u → gm_ev f v * u.2.2.2 < gm_ev f u * v.2.2.2 →
      (∀ i j, ac i → ac j → gm_ev (Q i) v = 0 → gm_ev (Q i) u = 0 → gm_ev (Q j) v = 0 → gm_ev (Q j) u = 0 → gm_cr (Q i) (Q j) = (0, 0, 0, 0)) →
      ∃ t, gm_Vx Q ac t ∧ gm_ev f v * t.2.2.2 < gm_ev f t * v.2.2.2 ∧
        gm_cn (fun i => ¬ (ac i ∧ gm_ev (Q i) v = 0 ∧ gm_ev (Q i) t = 0)) n < gm_cn (fun i => ¬ (ac i ∧ gm_ev (Q i) v = 0 ∧ gm_ev (Q i) u = 0)) n := by
    intro u hu hlt hS
    have hvw := hv.1
    have huw := hu.1
    have hde : ∀ j, gm_ev (Q j) v = 0 → gm_ev (Q j) (gm_lc v.2.2.2 u (-u.2.2.2) v) = v.2.2.2 * gm_ev (Q j) u := by
      intro j h
      rw [gm_ev_lc, h]; simp
    have hd0 : (gm_lc v.2.2.2 u (-u.2.2.2) v).2.2.2 = 0 := by rw [gm_w_lc]; grind
    have hdz : ∀ j, gm_ev (Q j) v = 0 → gm_ev (Q j) (gm_lc v.2.2.2 u (-u.2.2.2) v) = 0 → gm_ev (Q j) u = 0 := by
      intro j h1 h2
      rw [hde j h1] at h2
      exact (Int.mul_eq_zero.mp h2).resolve_left (by omega)
    have hd : ∀ j, ac j → gm_ev (Q j) v = 0 → gm_ev (Q j) (gm_lc v.2.2.2 u (-u.2.2.2) v) ≤ 0 := by
      intro j hj h
      rw [hde j h]
      exact gm_np (Int.le_of_lt hvw) (hu.2.1 j hj)
    have hf : 0 < gm_ev f (gm_lc v.2.2.2 u (-u.2.2.2) v) := by
      rw [gm_ev_lc]
      have e1 : v.2.2.2 * gm_ev f u + -u.2.2.2 * gm_ev f v = gm_ev f u * v.2.2.2 - gm_ev f v * u.2.2.2 := by grind
      omega
    obtain ⟨d, d0, dT, df, dS, i, hi, iv, id, inz⟩ := gm_dir hac hv hd0 hd hf
      (fun i j hi hj a b c e => hS i j hi hj a (hdz i a b) c (hdz j c e))
    have dnz : d ≠ (0, 0, 0, 0) := by
      intro e
      rw [e] at df
      simp [gm_ev] at df
    obtain ⟨k, hk, kpos, kin⟩ := gm_move hac hB hv.2.1 d0 dnz
    have kv := hv.2.1 k hk
    have kneg : 0 < -gm_ev (Q k) v := by
      rcases Int.lt_or_le 0 (-gm_ev (Q k) v) with h | h
      · exact h
      · have := dT k hk (by omega)
        omega
    have hxw : (gm_lc (gm_ev (Q k) d) v (-gm_ev (Q k) v) d).2.2.2 = gm_ev (Q k) d * v.2.2.2 := by
      rw [gm_w_lc, d0]; simp
    obtain ⟨t, ht, hT, hle⟩ := gm_lp' hac hB f _ kin (by rw [hxw]; exact gm_pp kpos hvw)
    have htw := ht.1
    have keep : ∀ j, ac j → gm_ev (Q j) v = 0 → gm_ev (Q j) d = 0 → gm_ev (Q j) t = 0 := by
      intro j hj h1 h2
      apply hT j hj
      rw [gm_ev_lc, h1, h2]; simp
    refine ⟨t, ht, ?_, ?_⟩
    · rw [hxw, gm_ev_lc] at hle
      apply gm_mul_cancel_lt kpos
      have e1 : (gm_ev (Q k) d * gm_ev f v + -gm_ev (Q k) v * gm_ev f d) * t.2.2.2
        = gm_ev (Q k) d * (gm_ev f v * t.2.2.2) + -gm_ev (Q k) v * gm_ev f d * t.2.2.2 := by grind
      have e2 : gm_ev f t * (gm_ev (Q k) d * v.2.2.2) = gm_ev (Q k) d * (gm_ev f t * v.2.2.2) := by grind
      have h6 : 0 < -gm_ev (Q k) v * gm_ev f d * t.2.2.2 := gm_pp (gm_pp kneg df) htw
      rw [e1, e2] at hle
      omega
    · refine gm_cn_lt n (fun j _ h => ?_) ⟨i, hac i hi, fun h => inz ?_, fun h => h ⟨hi, iv, keep i hi iv id⟩⟩
      · intro h2
        refine h ⟨h2.1, h2.2.1, keep j h2.1 h2.2.1 (dS j h2.1 h2.2.1 ?_)⟩
        rw [hde j h2.2.1, h2.2.2]; simp
      · rw [hde i iv, h.2.2]; simp
  intro m
  induction m with
  | zero =>
    intro u hu hlt hm
    by_cases hx : ∃ i j, ac i ∧ ac j ∧ gm_ev (Q i) v = 0 ∧ gm_ev (Q i) u = 0 ∧ gm_ev (Q j) v = 0 ∧ gm_ev (Q j) u = 0 ∧ gm_cr (Q i) (Q j) ≠ (0, 0, 0, 0)
    · exact ⟨u, hu, hlt, hx⟩
    · obtain ⟨t, _, _, h⟩ := step u hu hlt (fun i j hi hj a b c e => Classical.byContradiction fun hn => hx ⟨i, j, hi, hj, a, b, c, e, hn⟩)
      omega
  | succ m ih =>
    intro u hu hlt hm
    by_cases hx : ∃ i j, ac i ∧ ac j ∧ gm_ev (Q i) v = 0 ∧ gm_ev (Q i) u = 0 ∧ gm_ev (Q j) v = 0 ∧ gm_ev (Q j) u = 0 ∧ gm_cr (Q i) (Q j) ≠ (0, 0, 0, 0)
    · exact ⟨u, hu, hlt, hx⟩
    · obtain ⟨t, ht, htl, h⟩ := step u hu hlt (fun i j hi hj a b c e => Classical.byContradiction fun hn => hx ⟨i, j, hi, hj, a, b, c, e, hn⟩)
      exact ih t ht htl (by omega)

/-- a wedge of a plane through a corner: its mean in the level of h is beyond none and in the first alone -/
theorem gm_wedge {a b c h P R : gm_V} (hd : gm_dt a b c ≠ 0) (pw : P.2.2.2 = 0) (rw0 : R.2.2.2 = 0) (ap : gm_ev a P = 0) (ar : gm_ev a R = 0)
    (bp : gm_ev b P ≤ 0) (br : gm_ev b R ≤ 0) (cp : gm_ev c P ≤ 0) (cr : gm_ev c R ≤ 0) (hp : 0 < gm_ev h P) (hr : gm_ev h R < 0) :
    gm_ev b (gm_lc (-gm_ev h R) P (gm_ev h P) R) < 0 := by
  rw [gm_ev_lc]
  have t1 := gm_np (a := -gm_ev h R) (by omega) bp
  have t2 := gm_np (Int.le_of_lt hp) br
  rcases Int.lt_or_le (-gm_ev h R * gm_ev b P + gm_ev h P * gm_ev b R) 0 with g | g
  · exact g
  · exfalso
    have z1 : -gm_ev h R * gm_ev b P = 0 := by omega
    have z2 : gm_ev h P * gm_ev b R = 0 := by omega
    have y1 := (Int.mul_eq_zero.mp z1).resolve_left (by omega)
    have y2 := (Int.mul_eq_zero.mp z2).resolve_left (by omega)
    have k : gm_lc (gm_ev c R) P (-gm_ev c P) R = (0, 0, 0, 0) := by
      apply gm_cramer hd
      · rw [gm_w_lc, pw, rw0]; simp
      · rw [gm_ev_lc, ap, ar]; simp
      · rw [gm_ev_lc, y1, y2]; simp
      · rw [gm_ev_lc]; grind
    have k2 : gm_ev h (gm_lc (gm_ev c R) P (-gm_ev c P) R) = 0 := by rw [k]; simp [gm_ev]
    rw [gm_ev_lc] at k2
    have e1 : gm_ev c R * gm_ev h P = gm_ev h P * gm_ev c R := by grind
    have e2 : -gm_ev c P * gm_ev h R = -gm_ev h R * gm_ev c P := by grind
    have s1 := gm_np (Int.le_of_lt hp) cr
    have s2 := gm_np (a := -gm_ev h R) (by omega) cp
    have z3 : -gm_ev h R * gm_ev c P = 0 := by omega
    have y3 := (Int.mul_eq_zero.mp z3).resolve_left (by omega)
    have := gm_cramer hd pw ap y1 y3
    rw [this] at hp
    simp [gm_ev] at hp

theorem gm_dtc (a b c : gm_V) : gm_dt b c a = gm_dt a b c := by simp only [gm_dt]; grind
theorem gm_dts (a b c : gm_V) : gm_dt a c b = -gm_dt a b c := by simp only [gm_dt]; grind

theorem gm_sign {c1 c2 c3 m12 m13 m21 m23 m31 m32 : Int} (h12 : m12 < 0) (h13 : m13 < 0) (h21 : m21 < 0) (h23 : m23 < 0) (h31 : m31 < 0) (h32 : m32 < 0)
    (e1 : c2 * m12 + c3 * m13 = 0) (e2 : c1 * m21 + c3 * m23 = 0) (e3 : c1 * m31 + c2 * m32 = 0) : c3 = 0 := by
  rcases Int.lt_trichotomy c3 0 with h | h | h
  · exfalso
    have a1 : 0 < c3 * m13 := Int.mul_pos_of_neg_of_neg h h13
    have a2 : 0 < c3 * m23 := Int.mul_pos_of_neg_of_neg h h23
    have b1 : 0 < c2 := by
      rcases Int.lt_or_le 0 c2 with g | g
      · exact g
      · have := Int.mul_nonneg_of_nonpos_of_nonpos g (Int.le_of_lt h12)
        omega
    have b2 : 0 < c1 := by
      rcases Int.lt_or_le 0 c1 with g | g
      · exact g
      · have := Int.mul_nonneg_of_nonpos_of_nonpos g (Int.le_of_lt h21)
        omega
    have d1 := gm_pn b2 h31
    have d2 := gm_pn b1 h32
    omega
  · exact h
  · exfalso
    have a1 := gm_pn h h13
    have a2 := gm_pn h h23
    have b1 : c2 < 0 := by
      rcases Int.lt_or_le c2 0 with g | g
      · exact g
      · have := gm_np g (Int.le_of_lt h12)
        omega
    have b2 : c1 < 0 := by
      rcases Int.lt_or_le c1 0 with g | g
      · exact g
      · have := gm_np g (Int.le_of_lt h21)
        omega
    have d1 := Int.mul_pos_of_neg_of_neg b2 h31
    have d2 := Int.mul_pos_of_neg_of_neg b1 h32
    omega

theorem gm_core {a b c u1 u2 u3 : gm_V} {h1 h2 : Int} (w1 : u1.2.2.2 = 0) (w2 : u2.2.2.2 = 0) (w3 : u3.2.2.2 = 0)
    (z1 : gm_ev (h1, h2, 1, 0) u1 = 0) (z2 : gm_ev (h1, h2, 1, 0) u2 = 0) (z3 : gm_ev (h1, h2, 1, 0) u3 = 0)
    (a1 : gm_ev a u1 = 0) (b2 : gm_ev b u2 = 0) (c3 : gm_ev c u3 = 0) (a2 : gm_ev a u2 < 0) (a3 : gm_ev a u3 < 0)
    (b1 : gm_ev b u1 < 0) (b3 : gm_ev b u3 < 0) (c1 : gm_ev c u1 < 0) (c2 : gm_ev c u2 < 0) : False := by
  obtain ⟨x1, y1, q1, p1⟩ := u1
  obtain ⟨x2, y2, q2, p2⟩ := u2
  obtain ⟨x3, y3, q3, p3⟩ := u3
  dsimp only at w1 w2 w3
  subst w1 w2 w3
  have e1 : q1 = -(h1 * x1 + h2 * y1) := by simp only [gm_ev] at z1; omega
  have e2 : q2 = -(h1 * x2 + h2 * y2) := by simp only [gm_ev] at z2; omega
  have e3 : q3 = -(h1 * x3 + h2 * y3) := by simp only [gm_ev] at z3; omega
  subst e1 e2 e3
  have T : ∀ g : gm_V, (x2 * y3 - y2 * x3) * gm_ev g (x1, y1, -(h1 * x1 + h2 * y1), 0) + (x3 * y1 - y3 * x1) * gm_ev g (x2, y2, -(h1 * x2 + h2 * y2), 0)
      + (x1 * y2 - y1 * x2) * gm_ev g (x3, y3, -(h1 * x3 + h2 * y3), 0) = 0 := by
    intro g
    simp only [gm_ev]; grind
  have Ta := T a
  have Tb := T b
  have Tc := T c
  rw [a1] at Ta
  rw [b2] at Tb
  rw [c3] at Tc
  have k := gm_sign (c1 := x2 * y3 - y2 * x3) (c2 := x3 * y1 - y3 * x1) (c3 := x1 * y2 - y1 * x2) a2 a3 b1 b3 c1 c2 (by omega) (by omega) (by omega)
  have X : gm_ev a (x2, y2, -(h1 * x2 + h2 * y2), 0) * x1 = gm_ev a (x1, y1, -(h1 * x1 + h2 * y1), 0) * x2 := by
    simp only [gm_ev]; grind
  have Y : gm_ev a (x2, y2, -(h1 * x2 + h2 * y2), 0) * y1 = gm_ev a (x1, y1, -(h1 * x1 + h2 * y1), 0) * y2 := by
    simp only [gm_ev]; grind
  rw [a1] at X Y
  have X1 : x1 = 0 := (Int.mul_eq_zero.mp (by omega : gm_ev a (x2, y2, -(h1 * x2 + h2 * y2), 0) * x1 = 0)).resolve_left (by omega)
  have Y1 : y1 = 0 := (Int.mul_eq_zero.mp (by omega : gm_ev a (x2, y2, -(h1 * x2 + h2 * y2), 0) * y1 = 0)).resolve_left (by omega)
  rw [X1, Y1] at b1
  simp [gm_ev] at b1
end
end
section
/-! At most two corners a plane: each corner is the first or the last point of the body in one of its planes -/
section
def gm_lt (p q : gm_V) : Prop :=
  p.1 * q.2.2.2 < q.1 * p.2.2.2 ∨ (p.1 * q.2.2.2 = q.1 * p.2.2.2 ∧
    (p.2.1 * q.2.2.2 < q.2.1 * p.2.2.2 ∨ (p.2.1 * q.2.2.2 = q.2.1 * p.2.2.2 ∧ p.2.2.1 * q.2.2.2 < q.2.2.1 * p.2.2.2)))
theorem gm_tri {p q : gm_V} (h1 : ¬ gm_lt p q) (h2 : ¬ gm_lt q p) : gm_pr p q := by
  simp only [gm_lt, gm_pr] at *
  omega
theorem gm_lt_npr {p q : gm_V} (h1 : gm_lt p q) : ¬ gm_pr p q := by
  intro h
  simp only [gm_lt, gm_pr] at *
  omega
theorem gm_lt_asymm {p q : gm_V} (h1 : gm_lt p q) : ¬ gm_lt q p := by
  simp only [gm_lt] at *
  omega

theorem gm_frac_lt {a b c u v w : Int} (hu : 0 < u) (hv : 0 < v) (hw : 0 < w) (h1 : a * v ≤ b * u) (h2 : b * w < c * v) : a * w < c * u := by
  apply gm_mul_cancel_lt hv
  have h3 := Int.mul_le_mul_of_nonneg_right h1 (Int.le_of_lt hw)
  have h4 := Int.mul_lt_mul_of_pos_right h2 hu
  have e1 : v * (a * w) = a * v * w := by grind
  have e2 : v * (c * u) = c * v * u := by grind
  have e3 : b * u * w = b * w * u := by grind
  omega
theorem gm_frac_lt' {a b c u v w : Int} (hu : 0 < u) (hv : 0 < v) (hw : 0 < w) (h1 : a * v < b * u) (h2 : b * w ≤ c * v) : a * w < c * u := by
  apply gm_mul_cancel_lt hv
  have h3 := Int.mul_lt_mul_of_pos_right h1 hw
  have h4 := Int.mul_le_mul_of_nonneg_right h2 (Int.le_of_lt hu)
  have e1 : v * (a * w) = a * v * w := by grind
  have e2 : v * (c * u) = c * v * u := by grind
  have e3 : b * u * w = b * w * u := by grind
  omega
theorem gm_frac_eq {a b c u v w : Int} (hv : 0 < v) (h1 : a * v = b * u) (h2 : b * w = c * v) : a * w = c * u := by
  have e : v * (a * w) = v * (c * u) := by grind
  exact Int.eq_of_mul_eq_mul_left (by omega) e

theorem gm_lt_trans {p q r : gm_V} (hp : 0 < p.2.2.2) (hq : 0 < q.2.2.2) (hr : 0 < r.2.2.2) (h1 : gm_lt p q) (h2 : gm_lt q r) : gm_lt p r := by
  simp only [gm_lt] at *
  rcases h1 with h1 | ⟨e1, h1⟩
  · left
    rcases h2 with h2 | ⟨e2, _⟩
    · exact gm_frac_lt hp hq hr (Int.le_of_lt h1) h2
    · exact gm_frac_lt' hp hq hr h1 (Int.le_of_eq e2)
  · rcases h2 with h2 | ⟨e2, h2⟩
    · left; exact gm_frac_lt hp hq hr (Int.le_of_eq e1) h2
    · right
      refine ⟨gm_frac_eq hq e1 e2, ?_⟩
      rcases h1 with h1 | ⟨f1, h1⟩
      · left
        rcases h2 with h2 | ⟨f2, _⟩
        · exact gm_frac_lt hp hq hr (Int.le_of_lt h1) h2
        · exact gm_frac_lt' hp hq hr h1 (Int.le_of_eq f2)
      · rcases h2 with h2 | ⟨f2, h2⟩
        · left; exact gm_frac_lt hp hq hr (Int.le_of_eq f1) h2
        · right; exact ⟨gm_frac_eq hq f1 f2, gm_frac_lt hp hq hr (Int.le_of_lt h1) h2⟩

def gm_lpos (d : gm_V) : Prop := 0 < d.1 ∨ (d.1 = 0 ∧ (0 < d.2.1 ∨ (d.2.1 = 0 ∧ 0 < d.2.2.1)))
def gm_sz (d : gm_V) : Int := d.2.1.natAbs + d.2.2.1.natAbs
theorem gm_hpos {d : gm_V} {M : Int} (hd : gm_lpos d) (hM : gm_sz d < M) (hw : d.2.2.2 = 0) : 0 < gm_ev (M * M, M, 1, 0) d := by
  obtain ⟨x, y, z, w⟩ := d
  simp only [gm_lpos, gm_sz, gm_ev] at *
  have hM0 : 0 < M := by omega
  have hMM : 0 ≤ M * M := gm_nn (by omega) (by omega)
  rcases hd with h | ⟨hx0, h | ⟨hy0, h⟩⟩
  · have h1 := Int.mul_le_mul_of_nonneg_left (show (1 : Int) ≤ x by omega) hMM
    have h2 := Int.mul_le_mul_of_nonneg_left (show 1 - M ≤ y + z.natAbs by omega) (Int.le_of_lt hM0)
    have h4 := Int.mul_le_mul_of_nonneg_right (show (1 : Int) ≤ M by omega) (show (0 : Int) ≤ z.natAbs by omega)
    have h5 := Int.mul_le_mul_of_nonneg_left (show 1 - M + z.natAbs ≤ y by omega) (Int.le_of_lt hM0)
    have e1 : M * (1 - M + z.natAbs) = M - M * M + M * z.natAbs := by grind
    omega
  · subst hx0
    have h2 := Int.mul_le_mul_of_nonneg_left (show (1 : Int) ≤ y by omega) (Int.le_of_lt hM0)
    omega
  · subst hx0 hy0
    simp only [Int.mul_zero]
    omega

theorem gm_pdir {Q : Nat → gm_V} {ac : Nat → Prop} {v p : gm_V} {t : Nat} (hv : 0 < v.2.2.2) (hp : gm_In Q ac p)
    (tp : gm_ev (Q t) p = 0) (tv : gm_ev (Q t) v = 0) :
    (gm_lc v.2.2.2 p (-p.2.2.2) v).2.2.2 = 0 ∧ gm_ev (Q t) (gm_lc v.2.2.2 p (-p.2.2.2) v) = 0 ∧
      ∀ s, ac s → gm_ev (Q s) v = 0 → gm_ev (Q s) (gm_lc v.2.2.2 p (-p.2.2.2) v) ≤ 0 := by
  refine ⟨?_, ?_, fun s hs sv => ?_⟩
  · rw [gm_w_lc]; grind
  · rw [gm_ev_lc, tp, tv]; simp
  · rw [gm_ev_lc, sv]
    have := gm_np (Int.le_of_lt hv) (hp s hs)
    omega
theorem gm_pdir_pos {v p : gm_V} (h : gm_lt v p) : gm_lpos (gm_lc v.2.2.2 p (-p.2.2.2) v) := by
  obtain ⟨v1, v2, v3, v4⟩ := v
  obtain ⟨p1, p2, p3, p4⟩ := p
  simp only [gm_lt, gm_lpos, gm_lc] at *
  have e1 : v4 * p1 + -p4 * v1 = p1 * v4 - v1 * p4 := by grind
  have e2 : v4 * p2 + -p4 * v2 = p2 * v4 - v2 * p4 := by grind
  have e3 : v4 * p3 + -p4 * v3 = p3 * v4 - v3 * p4 := by grind
  rw [e1, e2, e3]
  omega
theorem gm_pdir_neg {v p : gm_V} (h : gm_lt p v) : gm_lpos (gm_lc (-1) (gm_lc v.2.2.2 p (-p.2.2.2) v) 0 (gm_lc v.2.2.2 p (-p.2.2.2) v)) := by
  obtain ⟨v1, v2, v3, v4⟩ := v
  obtain ⟨p1, p2, p3, p4⟩ := p
  simp only [gm_lt, gm_lpos, gm_lc] at *
  have e1 : v4 * p1 + -p4 * v1 = p1 * v4 - v1 * p4 := by grind
  have e2 : v4 * p2 + -p4 * v2 = p2 * v4 - v2 * p4 := by grind
  have e3 : v4 * p3 + -p4 * v3 = p3 * v4 - v3 * p4 := by grind
  rw [e1, e2, e3]
  omega

theorem gm_hev_pos {v p : gm_V} {M : Int} (h : gm_lt v p) (hw : (gm_lc v.2.2.2 p (-p.2.2.2) v).2.2.2 = 0) (hM : gm_sz (gm_lc v.2.2.2 p (-p.2.2.2) v) < M) :
    0 < gm_ev (M * M, M, 1, 0) (gm_lc v.2.2.2 p (-p.2.2.2) v) := gm_hpos (gm_pdir_pos h) hM hw
theorem gm_sz_neg (d : gm_V) : gm_sz (gm_lc (-1) d 0 d) = gm_sz d := by
  simp only [gm_sz, gm_lc]; omega
theorem gm_hev_neg {v p : gm_V} {M : Int} (h : gm_lt p v) (hw : (gm_lc v.2.2.2 p (-p.2.2.2) v).2.2.2 = 0) (hM : gm_sz (gm_lc v.2.2.2 p (-p.2.2.2) v) < M) :
    gm_ev (M * M, M, 1, 0) (gm_lc v.2.2.2 p (-p.2.2.2) v) < 0 := by
  have := gm_hpos (gm_pdir_neg h) (by rw [gm_sz_neg]; exact hM) (gm_neg_w hw)
  rw [gm_neg_ev] at this
  omega

theorem gm_sz0 (d : gm_V) : 0 ≤ gm_sz d := by simp only [gm_sz]; omega

theorem gm_ext {Q : Nat → gm_V} {ac : Nat → Prop} {v : gm_V} (hv : gm_Vx Q ac v) :
    ∃ i, ac i ∧ gm_ev (Q i) v = 0 ∧ ((∀ p, gm_In Q ac p → gm_ev (Q i) p = 0 → ¬ gm_lt v p) ∨ (∀ p, gm_In Q ac p → gm_ev (Q i) p = 0 → ¬ gm_lt p v)) := by
  apply Classical.byContradiction
  intro hn
  have hP : ∀ i, ac i → gm_ev (Q i) v = 0 → ∃ p, gm_In Q ac p ∧ gm_ev (Q i) p = 0 ∧ gm_lt v p := by
    intro i hi iv
    apply Classical.byContradiction
    intro h
    exact hn ⟨i, hi, iv, .inl fun p a b c => h ⟨p, a, b, c⟩⟩
  have hR : ∀ i, ac i → gm_ev (Q i) v = 0 → ∃ p, gm_In Q ac p ∧ gm_ev (Q i) p = 0 ∧ gm_lt p v := by
    intro i hi iv
    apply Classical.byContradiction
    intro h
    exact hn ⟨i, hi, iv, .inr fun p a b c => h ⟨p, a, b, c⟩⟩
  obtain ⟨hw, _, i, j, k, hi, hj, hk, hd, ei, ej, ek⟩ := hv
  obtain ⟨p1, a1, b1, c1⟩ := hP i hi ei
  obtain ⟨p2, a2, b2, c2⟩ := hP j hj ej
  obtain ⟨p3, a3, b3, c3⟩ := hP k hk ek
  obtain ⟨r1, a1', b1', c1'⟩ := hR i hi ei
  obtain ⟨r2, a2', b2', c2'⟩ := hR j hj ej
  obtain ⟨r3, a3', b3', c3'⟩ := hR k hk ek
  obtain ⟨w1, t1, s1⟩ := gm_pdir hw a1 b1 ei
  obtain ⟨w2, t2, s2⟩ := gm_pdir hw a2 b2 ej
  obtain ⟨w3, t3, s3⟩ := gm_pdir hw a3 b3 ek
  obtain ⟨w1', t1', s1'⟩ := gm_pdir hw a1' b1' ei
  obtain ⟨w2', t2', s2'⟩ := gm_pdir hw a2' b2' ej
  obtain ⟨w3', t3', s3'⟩ := gm_pdir hw a3' b3' ek
  have H1 := fun M => gm_hev_pos (M := M) c1 w1
  have H2 := fun M => gm_hev_pos (M := M) c2 w2
  have H3 := fun M => gm_hev_pos (M := M) c3 w3
  have H1' := fun M => gm_hev_neg (M := M) c1' w1'
  have H2' := fun M => gm_hev_neg (M := M) c2' w2'
  have H3' := fun M => gm_hev_neg (M := M) c3' w3'
  generalize gm_lc v.2.2.2 p1 (-p1.2.2.2) v = P1 at *
  generalize gm_lc v.2.2.2 p2 (-p2.2.2.2) v = P2 at *
  generalize gm_lc v.2.2.2 p3 (-p3.2.2.2) v = P3 at *
  generalize gm_lc v.2.2.2 r1 (-r1.2.2.2) v = R1 at *
  generalize gm_lc v.2.2.2 r2 (-r2.2.2.2) v = R2 at *
  generalize gm_lc v.2.2.2 r3 (-r3.2.2.2) v = R3 at *
  have z1 := gm_sz0 P1
  have z2 := gm_sz0 P2
  have z3 := gm_sz0 P3
  have z1' := gm_sz0 R1
  have z2' := gm_sz0 R2
  have z3' := gm_sz0 R3
  obtain ⟨M, hM⟩ : ∃ M, M = 1 + gm_sz P1 + gm_sz P2 + gm_sz P3 + gm_sz R1 + gm_sz R2 + gm_sz R3 := ⟨_, rfl⟩
  have g1 := H1 M (by omega)
  have g2 := H2 M (by omega)
  have g3 := H3 M (by omega)
  have g1' := H1' M (by omega)
  have g2' := H2' M (by omega)
  have g3' := H3' M (by omega)
  clear H1 H2 H3 H1' H2' H3' hM z1 z2 z3 z1' z2' z3'
  have d2 : gm_dt (Q i) (Q k) (Q j) ≠ 0 := by rw [gm_dts]; omega
  have d3 : gm_dt (Q j) (Q k) (Q i) ≠ 0 := by rw [gm_dtc]; exact hd
  have d4 : gm_dt (Q j) (Q i) (Q k) ≠ 0 := by rw [gm_dts, gm_dtc]; omega
  have d5 : gm_dt (Q k) (Q i) (Q j) ≠ 0 := by rw [gm_dtc, gm_dtc]; exact hd
  have d6 : gm_dt (Q k) (Q j) (Q i) ≠ 0 := by rw [gm_dts, gm_dtc, gm_dtc]; omega
  refine gm_core (a := Q i) (b := Q j) (c := Q k) (h1 := M * M) (h2 := M)
    (u1 := gm_lc (-gm_ev (M * M, M, 1, 0) R1) P1 (gm_ev (M * M, M, 1, 0) P1) R1)
    (u2 := gm_lc (-gm_ev (M * M, M, 1, 0) R2) P2 (gm_ev (M * M, M, 1, 0) P2) R2)
    (u3 := gm_lc (-gm_ev (M * M, M, 1, 0) R3) P3 (gm_ev (M * M, M, 1, 0) P3) R3) ?_ ?_ ?_ ?_ ?_ ?_ ?_ ?_ ?_ ?_ ?_ ?_ ?_ ?_ ?_
  · rw [gm_w_lc, w1, w1']; simp
  · rw [gm_w_lc, w2, w2']; simp
  · rw [gm_w_lc, w3, w3']; simp
  · rw [gm_ev_lc]; grind
  · rw [gm_ev_lc]; grind
  · rw [gm_ev_lc]; grind
  · rw [gm_ev_lc, t1, t1']; simp
  · rw [gm_ev_lc, t2, t2']; simp
  · rw [gm_ev_lc, t3, t3']; simp
  · exact gm_wedge (a := Q j) (b := Q i) (c := Q k) d4 w2 w2' t2 t2' (s2 i hi ei) (s2' i hi ei) (s2 k hk ek) (s2' k hk ek) g2 g2'
  · exact gm_wedge (a := Q k) (b := Q i) (c := Q j) d5 w3 w3' t3 t3' (s3 i hi ei) (s3' i hi ei) (s3 j hj ej) (s3' j hj ej) g3 g3'
  · exact gm_wedge (a := Q i) (b := Q j) (c := Q k) hd w1 w1' t1 t1' (s1 j hj ej) (s1' j hj ej) (s1 k hk ek) (s1' k hk ek) g1 g1'
  · exact gm_wedge (a := Q k) (b := Q j) (c := Q i) d6 w3 w3' t3 t3' (s3 j hj ej) (s3' j hj ej) (s3 i hi ei) (s3' i hi ei) g3 g3'
  · exact gm_wedge (a := Q i) (b := Q k) (c := Q j) d2 w1 w1' t1 t1' (s1 k hk ek) (s1' k hk ek) (s1 j hj ej) (s1' j hj ej) g1 g1'
  · exact gm_wedge (a := Q j) (b := Q k) (c := Q i) d3 w2 w2' t2 t2' (s2 k hk ek) (s2' k hk ek) (s2 i hi ei) (s2' i hi ei) g2 g2'

theorem gm_pigeon : ∀ (N m : Nat) (f : Nat → Nat), (∀ i, i < m → f i < N) → (∀ i j, i < j → j < m → f i ≠ f j) → m ≤ N := by
  intro N
  induction N with
  | zero =>
    intro m f h _
    cases m with
    | zero => exact Nat.le_refl _
    | succ m => have := h 0 (by omega); omega
  | succ N ih =>
    intro m f h hi
    cases m with
    | zero => omega
    | succ m =>
      have := ih m (fun i => if f m < f i then f i - 1 else f i) (fun i hi2 => by
        have a := h i (by omega)
        have b := h m (by omega)
        have c := hi i m hi2 (by omega)
        split <;> omega) (fun i j hij hj => by
        have a := hi i j hij (by omega)
        have b := hi i m (by omega) (by omega)
        have c := hi j m (by omega) (by omega)
        split <;> split <;> omega)
      omega

theorem gm_bound {Q : Nat → gm_V} {ac : Nat → Prop} {n : Nat} (hac : ∀ i, ac i → i < n) (m : Nat) (f : Nat → gm_V)
    (hf : ∀ a, a < m → gm_Vx Q ac (f a)) (hi : ∀ a b, a < b → b < m → ¬ gm_pr (f a) (f b)) : m ≤ 2 * n := by
  have hc : ∀ a : Nat, ∃ c : Nat, a < m → (c < 2 * n ∧ ∃ i, ac i ∧ gm_ev (Q i) (f a) = 0 ∧
      ((c = 2 * i ∧ ∀ p, gm_In Q ac p → gm_ev (Q i) p = 0 → ¬ gm_lt (f a) p) ∨ (c = 2 * i + 1 ∧ ∀ p, gm_In Q ac p → gm_ev (Q i) p = 0 → ¬ gm_lt p (f a)))) := by
    intro a
    by_cases ha : a < m
    · obtain ⟨i, h1, h2, h3⟩ := gm_ext (hf a ha)
      have := hac i h1
      rcases h3 with h3 | h3
      · exact ⟨2 * i, fun _ => ⟨by omega, i, h1, h2, .inl ⟨rfl, h3⟩⟩⟩
      · exact ⟨2 * i + 1, fun _ => ⟨by omega, i, h1, h2, .inr ⟨rfl, h3⟩⟩⟩
    · exact ⟨0, fun h => absurd h ha⟩
  obtain ⟨g, hg⟩ := Classical.skolem.mp hc
  refine gm_pigeon (2 * n) m g (fun i h => (hg i h).1) (fun a b hab hb e => ?_)
  obtain ⟨_, i, ia, iv, h1⟩ := hg a (by omega)
  obtain ⟨_, j, ja, jv, h2⟩ := hg b hb
  have fa := (hf a (by omega)).2.1
  have fb := (hf b hb).2.1
  rcases h1 with ⟨e1, h1⟩ | ⟨e1, h1⟩
  · rcases h2 with ⟨e2, h2⟩ | ⟨e2, h2⟩
    · have : i = j := by omega
      subst this
      exact hi a b hab hb (gm_tri (h1 _ fb jv) (h2 _ fa iv))
    · omega
  · rcases h2 with ⟨e2, h2⟩ | ⟨e2, h2⟩
    · omega
    · have : i = j := by omega
      subst this
      exact hi a b hab hb (gm_tri (h2 _ fa iv) (h1 _ fb jv))
end
end
section
/-! Where three planes meet, in lowest terms -/
section
def gm_cp (a b c : gm_V) : gm_V :=
  (gm_dt (a.2.2.2, a.2.1, a.2.2.1, 0) (b.2.2.2, b.2.1, b.2.2.1, 0) (c.2.2.2, c.2.1, c.2.2.1, 0),
   gm_dt (a.1, a.2.2.2, a.2.2.1, 0) (b.1, b.2.2.2, b.2.2.1, 0) (c.1, c.2.2.2, c.2.2.1, 0),
   gm_dt (a.1, a.2.1, a.2.2.2, 0) (b.1, b.2.1, b.2.2.2, 0) (c.1, c.2.1, c.2.2.2, 0),
   gm_dt a b c)
theorem gm_cp_a (a b c : gm_V) : gm_ev a (gm_cp a b c) = 0 := by simp only [gm_ev, gm_cp, gm_dt]; grind
theorem gm_cp_b (a b c : gm_V) : gm_ev b (gm_cp a b c) = 0 := by simp only [gm_ev, gm_cp, gm_dt]; grind
theorem gm_cp_c (a b c : gm_V) : gm_ev c (gm_cp a b c) = 0 := by simp only [gm_ev, gm_cp, gm_dt]; grind

def gm_g4 (p : gm_V) : Nat := Nat.gcd (Nat.gcd (Nat.gcd p.2.2.2.natAbs p.1.natAbs) p.2.1.natAbs) p.2.2.1.natAbs
def gm_q (p : gm_V) : Int := if p.2.2.2 < 0 then -(gm_g4 p : Int) else (gm_g4 p : Int)
def gm_red (p : gm_V) : gm_V := (p.1.tdiv (gm_q p), p.2.1.tdiv (gm_q p), p.2.2.1.tdiv (gm_q p), p.2.2.2.tdiv (gm_q p))
theorem gm_g4_mul (k : Int) (p : gm_V) : gm_g4 (k * p.1, k * p.2.1, k * p.2.2.1, k * p.2.2.2) = k.natAbs * gm_g4 p := by
  simp only [gm_g4, Int.natAbs_mul, Nat.gcd_mul_left]
theorem gm_g4_pos {p : gm_V} (h : p.2.2.2 ≠ 0) : 0 < gm_g4 p := by
  apply Nat.pos_of_ne_zero
  intro e
  have h1 := Nat.eq_zero_of_gcd_eq_zero_left e
  have h2 := Nat.eq_zero_of_gcd_eq_zero_left h1
  have h3 := Nat.eq_zero_of_gcd_eq_zero_left h2
  omega
theorem gm_g4_dvd (p : gm_V) : (gm_g4 p : Int) ∣ p.1 ∧ (gm_g4 p : Int) ∣ p.2.1 ∧ (gm_g4 p : Int) ∣ p.2.2.1 ∧ (gm_g4 p : Int) ∣ p.2.2.2 := by
  have d4 : gm_g4 p ∣ p.2.2.1.natAbs := Nat.gcd_dvd_right _ _
  have c : gm_g4 p ∣ Nat.gcd (Nat.gcd p.2.2.2.natAbs p.1.natAbs) p.2.1.natAbs := Nat.gcd_dvd_left _ _
  have d3 : gm_g4 p ∣ p.2.1.natAbs := Nat.dvd_trans c (Nat.gcd_dvd_right _ _)
  have c2 : gm_g4 p ∣ Nat.gcd p.2.2.2.natAbs p.1.natAbs := Nat.dvd_trans c (Nat.gcd_dvd_left _ _)
  have d2 : gm_g4 p ∣ p.1.natAbs := Nat.dvd_trans c2 (Nat.gcd_dvd_right _ _)
  have d1 : gm_g4 p ∣ p.2.2.2.natAbs := Nat.dvd_trans c2 (Nat.gcd_dvd_left _ _)
  exact ⟨Int.ofNat_dvd_left.mpr d2, Int.ofNat_dvd_left.mpr d3, Int.ofNat_dvd_left.mpr d4, Int.ofNat_dvd_left.mpr d1⟩
theorem gm_q_dvd {p : gm_V} {x : Int} (h : (gm_g4 p : Int) ∣ x) : gm_q p ∣ x := by
  unfold gm_q
  split
  · exact Int.neg_dvd.mpr h
  · exact h
theorem gm_q_nz {p : gm_V} (h : p.2.2.2 ≠ 0) : gm_q p ≠ 0 := by
  have := gm_g4_pos h
  unfold gm_q
  split <;> omega
theorem gm_red_eq (p : gm_V) : p = (gm_q p * (gm_red p).1, gm_q p * (gm_red p).2.1, gm_q p * (gm_red p).2.2.1, gm_q p * (gm_red p).2.2.2) := by
  obtain ⟨d1, d2, d3, d4⟩ := gm_g4_dvd p
  have e1 := Int.mul_tdiv_cancel' (gm_q_dvd d1)
  have e2 := Int.mul_tdiv_cancel' (gm_q_dvd d2)
  have e3 := Int.mul_tdiv_cancel' (gm_q_dvd d3)
  have e4 := Int.mul_tdiv_cancel' (gm_q_dvd d4)
  simp only [gm_red]
  rw [e1, e2, e3, e4]
theorem gm_red_ev (a p : gm_V) : gm_ev a p = gm_q p * gm_ev a (gm_red p) := by
  have h := gm_red_eq p
  generalize gm_q p = q at *
  generalize gm_red p = r at *
  rw [h]
  simp only [gm_ev]; grind
theorem gm_red_w {p : gm_V} (h : p.2.2.2 ≠ 0) : 0 < (gm_red p).2.2.2 := by
  have e : p.2.2.2 = gm_q p * (gm_red p).2.2.2 := congrArg (fun v : gm_V => v.2.2.2) (gm_red_eq p)
  have hg := gm_g4_pos h
  rcases Int.lt_or_le 0 (gm_red p).2.2.2 with c | c
  · exact c
  · exfalso
    unfold gm_q at e
    split at e
    · have := Int.mul_nonneg_of_nonpos_of_nonpos (a := -(gm_g4 p : Int)) (by omega) c
      omega
    · have := gm_np (a := (gm_g4 p : Int)) (by omega) c
      omega
theorem gm_red_g {p : gm_V} (h : p.2.2.2 ≠ 0) : gm_g4 (gm_red p) = 1 := by
  have e := congrArg gm_g4 (gm_red_eq p)
  rw [gm_g4_mul] at e
  have hg := gm_g4_pos h
  have hq : (gm_q p).natAbs = gm_g4 p := by
    unfold gm_q
    split <;> omega
  rw [hq] at e
  have e2 : gm_g4 p * gm_g4 (gm_red p) = gm_g4 p * 1 := by omega
  exact Nat.eq_of_mul_eq_mul_left hg e2
theorem gm_red_0 {a p : gm_V} (h : p.2.2.2 ≠ 0) (h0 : gm_ev a p = 0) : gm_ev a (gm_red p) = 0 := by
  rw [gm_red_ev] at h0
  exact (Int.mul_eq_zero.mp h0).resolve_left (gm_q_nz h)

theorem gm_pr_eq {p q : gm_V} (h : gm_pr p q) (hp : 0 < p.2.2.2) (hq : 0 < q.2.2.2) (gp : gm_g4 p = 1) (gq : gm_g4 q = 1) : p = q := by
  have e1 := gm_g4_mul q.2.2.2 p
  have e2 := gm_g4_mul p.2.2.2 q
  obtain ⟨h1, h2, h3⟩ := h
  have k : (q.2.2.2 * p.1, q.2.2.2 * p.2.1, q.2.2.2 * p.2.2.1, q.2.2.2 * p.2.2.2) = (p.2.2.2 * q.1, p.2.2.2 * q.2.1, p.2.2.2 * q.2.2.1, p.2.2.2 * q.2.2.2) := by
    simp only [Prod.mk.injEq]
    refine ⟨?_, ?_, ?_, ?_⟩ <;> grind
  rw [k, e2, gp, gq] at e1
  have e : p.2.2.2 = q.2.2.2 := by omega
  obtain ⟨p1, p2, p3, p4⟩ := p
  obtain ⟨q1, q2, q3, q4⟩ := q
  dsimp only at *
  subst e
  have n : p4 ≠ 0 := by omega
  rw [Int.eq_of_mul_eq_mul_right n h1, Int.eq_of_mul_eq_mul_right n h2, Int.eq_of_mul_eq_mul_right n h3]

def gm_pt (a b c : gm_V) : gm_V := gm_red (gm_cp a b c)
def gm_Vt (Q : Nat → gm_V) (ac : Nat → Prop) (p : gm_V) : Prop := gm_Vx Q ac p ∧ gm_g4 p = 1

theorem gm_pt_vt {Q : Nat → gm_V} {ac : Nat → Prop} {i j k : Nat} (hi : ac i) (hj : ac j) (hk : ac k) (hd : gm_dt (Q i) (Q j) (Q k) ≠ 0)
    (hin : gm_In Q ac (gm_pt (Q i) (Q j) (Q k))) : gm_Vt Q ac (gm_pt (Q i) (Q j) (Q k)) := by
  have hw : (gm_cp (Q i) (Q j) (Q k)).2.2.2 ≠ 0 := hd
  exact ⟨⟨gm_red_w hw, hin, i, j, k, hi, hj, hk, hd, gm_red_0 hw (gm_cp_a _ _ _), gm_red_0 hw (gm_cp_b _ _ _), gm_red_0 hw (gm_cp_c _ _ _)⟩, gm_red_g hw⟩

theorem gm_pt_eq {Q : Nat → gm_V} {ac : Nat → Prop} {p : gm_V} {i j k : Nat} (hp : gm_Vt Q ac p) (hd : gm_dt (Q i) (Q j) (Q k) ≠ 0)
    (ei : gm_ev (Q i) p = 0) (ej : gm_ev (Q j) p = 0) (ek : gm_ev (Q k) p = 0) : p = gm_pt (Q i) (Q j) (Q k) := by
  have hw : (gm_cp (Q i) (Q j) (Q k)).2.2.2 ≠ 0 := hd
  exact gm_pr_eq (gm_uniq hd ei ej ek (gm_red_0 hw (gm_cp_a _ _ _)) (gm_red_0 hw (gm_cp_b _ _ _)) (gm_red_0 hw (gm_cp_c _ _ _)))
    hp.1.1 (gm_red_w hw) hp.2 (gm_red_g hw)

theorem gm_dtaa (a c : gm_V) : gm_dt a a c = 0 := by simp only [gm_dt]; grind
/-- three planes that meet in a point, in the order of their numbers -/
theorem gm_sorted {Q : Nat → gm_V} {P : Nat → Prop} {i j k : Nat} (hi : P i) (hj : P j) (hk : P k) (hd : gm_dt (Q i) (Q j) (Q k) ≠ 0) :
    ∃ a b c, a < b ∧ b < c ∧ P a ∧ P b ∧ P c ∧ gm_dt (Q a) (Q b) (Q c) ≠ 0 := by
  have n1 : i ≠ j := fun e => hd (by rw [e]; exact gm_dtaa _ _)
  have n2 : j ≠ k := fun e => hd (by rw [e, ← gm_dtc, gm_dtaa])
  have n3 : i ≠ k := fun e => hd (by rw [e, gm_dts, gm_dtaa]; rfl)
  have d2 : gm_dt (Q i) (Q k) (Q j) ≠ 0 := by rw [gm_dts]; omega
  have d3 : gm_dt (Q j) (Q k) (Q i) ≠ 0 := by rw [gm_dtc]; exact hd
  have d4 : gm_dt (Q j) (Q i) (Q k) ≠ 0 := by rw [gm_dts, gm_dtc]; omega
  have d5 : gm_dt (Q k) (Q i) (Q j) ≠ 0 := by rw [gm_dtc, gm_dtc]; exact hd
  have d6 : gm_dt (Q k) (Q j) (Q i) ≠ 0 := by rw [gm_dts, gm_dtc, gm_dtc]; omega
  rcases Nat.lt_or_ge i j with a | a
  · rcases Nat.lt_or_ge j k with b | b
    · exact ⟨i, j, k, a, b, hi, hj, hk, hd⟩
    · rcases Nat.lt_or_ge i k with c | c
      · exact ⟨i, k, j, c, by omega, hi, hk, hj, d2⟩
      · exact ⟨k, i, j, by omega, a, hk, hi, hj, d5⟩
  · rcases Nat.lt_or_ge i k with b | b
    · exact ⟨j, i, k, by omega, b, hj, hi, hk, d4⟩
    · rcases Nat.lt_or_ge j k with c | c
      · exact ⟨j, k, i, c, by omega, hj, hk, hi, d3⟩
      · exact ⟨k, j, i, by omega, by omega, hk, hj, hi, d6⟩

theorem gm_vt_pt {Q : Nat → gm_V} {ac : Nat → Prop} {p : gm_V} (hp : gm_Vt Q ac p) :
    ∃ i j k, i < j ∧ j < k ∧ ac i ∧ ac j ∧ ac k ∧ gm_dt (Q i) (Q j) (Q k) ≠ 0 ∧ p = gm_pt (Q i) (Q j) (Q k) := by
  obtain ⟨_, _, i, j, k, hi, hj, hk, hd, ei, ej, ek⟩ := hp.1
  obtain ⟨a, b, c, h1, h2, ha, hb, hc, hd'⟩ := gm_sorted (Q := Q) (P := fun t => ac t ∧ gm_ev (Q t) p = 0) ⟨hi, ei⟩ ⟨hj, ej⟩ ⟨hk, ek⟩ hd
  exact ⟨a, b, c, h1, h2, ha.1, hb.1, hc.1, hd', gm_pt_eq hp hd' ha.2 hb.2 hc.2⟩

/-- bounds -/
def gm_ok (a : gm_V) : Prop := (-4 ≤ a.1 ∧ a.1 ≤ 4) ∧ (-4 ≤ a.2.1 ∧ a.2.1 ≤ 4) ∧ (-4 ≤ a.2.2.1 ∧ a.2.2.1 ≤ 4) ∧ -60 ≤ a.2.2.2 ∧ a.2.2.2 ≤ 60
def gm_bd (p : gm_V) : Prop := (-5760 ≤ p.1 ∧ p.1 ≤ 5760) ∧ (-5760 ≤ p.2.1 ∧ p.2.1 ≤ 5760) ∧ (-5760 ≤ p.2.2.1 ∧ p.2.2.1 ≤ 5760) ∧ -384 ≤ p.2.2.2 ∧ p.2.2.2 ≤ 384
theorem gm_dt_bd {a1 a2 a3 b1 b2 b3 c1 c2 c3 A B C : Int} (x1 : -A ≤ a1 ∧ a1 ≤ A) (x2 : -B ≤ a2 ∧ a2 ≤ B) (x3 : -C ≤ a3 ∧ a3 ≤ C)
    (y1 : -A ≤ b1 ∧ b1 ≤ A) (y2 : -B ≤ b2 ∧ b2 ≤ B) (y3 : -C ≤ b3 ∧ b3 ≤ C) (z1 : -A ≤ c1 ∧ c1 ≤ A) (z2 : -B ≤ c2 ∧ c2 ≤ B) (z3 : -C ≤ c3 ∧ c3 ≤ C) :
    -(6 * (A * (B * C))) ≤ gm_dt (a1, a2, a3, 0) (b1, b2, b3, 0) (c1, c2, c3, 0) ∧ gm_dt (a1, a2, a3, 0) (b1, b2, b3, 0) (c1, c2, c3, 0) ≤ 6 * (A * (B * C)) := by
  simp only [gm_dt]
  have p1 := nu_pb y2.1 y2.2 z3.1 z3.2
  have p2 := nu_pb y3.1 y3.2 z2.1 z2.2
  have p3 := nu_pb y1.1 y1.2 z3.1 z3.2
  have p4 := nu_pb y3.1 y3.2 z1.1 z1.2
  have p5 := nu_pb y1.1 y1.2 z2.1 z2.2
  have p6 := nu_pb y2.1 y2.2 z1.1 z1.2
  have w1 : C * B = B * C := Int.mul_comm _ _
  have w2 : C * A = A * C := Int.mul_comm _ _
  have w3 : B * A = A * B := Int.mul_comm _ _
  have q1 := nu_pb (a := a1) (b := b2 * c3 - b3 * c2) (A := A) (B := 2 * (B * C)) x1.1 x1.2 (by omega) (by omega)
  have q2 := nu_pb (a := a2) (b := b1 * c3 - b3 * c1) (A := B) (B := 2 * (A * C)) x2.1 x2.2 (by omega) (by omega)
  have q3 := nu_pb (a := a3) (b := b1 * c2 - b2 * c1) (A := C) (B := 2 * (A * B)) x3.1 x3.2 (by omega) (by omega)
  have e1 : A * (2 * (B * C)) = 2 * (A * (B * C)) := by grind
  have e2 : B * (2 * (A * C)) = 2 * (A * (B * C)) := by grind
  have e3 : C * (2 * (A * B)) = 2 * (A * (B * C)) := by grind
  omega
theorem gm_cp_bd {a b c : gm_V} (ha : gm_ok a) (hb : gm_ok b) (hc : gm_ok c) : gm_bd (gm_cp a b c) := by
  obtain ⟨a1, a2, a3, a4⟩ := a
  obtain ⟨b1, b2, b3, b4⟩ := b
  obtain ⟨c1, c2, c3, c4⟩ := c
  obtain ⟨x1, x2, x3, x4⟩ := ha
  obtain ⟨y1, y2, y3, y4⟩ := hb
  obtain ⟨z1, z2, z3, z4⟩ := hc
  have k1 := gm_dt_bd (A := 60) (B := 4) (C := 4) x4 x2 x3 y4 y2 y3 z4 z2 z3
  have k2 := gm_dt_bd (A := 4) (B := 60) (C := 4) x1 x4 x3 y1 y4 y3 z1 z4 z3
  have k3 := gm_dt_bd (A := 4) (B := 4) (C := 60) x1 x2 x4 y1 y2 y4 z1 z2 z4
  have k4 := gm_dt_bd (A := 4) (B := 4) (C := 4) x1 x2 x3 y1 y2 y3 z1 z2 z3
  have e : gm_dt (a1, a2, a3, a4) (b1, b2, b3, b4) (c1, c2, c3, c4) = gm_dt (a1, a2, a3, 0) (b1, b2, b3, 0) (c1, c2, c3, 0) := rfl
  simp only [gm_bd, gm_cp]
  rw [e]
  dsimp only at *
  refine ⟨⟨?_, ?_⟩, ⟨?_, ?_⟩, ⟨?_, ?_⟩, ?_, ?_⟩ <;> omega
theorem gm_tb {x q B : Int} (h1 : -B ≤ x) (h2 : x ≤ B) : -B ≤ x.tdiv q ∧ x.tdiv q ≤ B := by
  have := Int.natAbs_tdiv_le_natAbs x q
  omega
theorem gm_red_bd {p : gm_V} (h : gm_bd p) : gm_bd (gm_red p) := by
  obtain ⟨h1, h2, h3, h4⟩ := h
  exact ⟨gm_tb h1.1 h1.2, gm_tb h2.1 h2.2, gm_tb h3.1 h3.2, gm_tb h4.1 h4.2⟩
theorem gm_vt_bd {Q : Nat → gm_V} {ac : Nat → Prop} (hok : ∀ i, ac i → gm_ok (Q i)) {p : gm_V} (hp : gm_Vt Q ac p) : gm_bd p := by
  obtain ⟨i, j, k, _, _, hi, hj, hk, _, e⟩ := gm_vt_pt hp
  rw [e]
  exact gm_red_bd (gm_cp_bd (hok i hi) (hok j hj) (hok k hk))

/-- the six planes of the box -/
def gm_bx (i : Nat) : gm_V := match i with
  | 0 => (1, 0, 0, 8) | 1 => (-1, 0, 0, 8) | 2 => (0, 1, 0, 8) | 3 => (0, -1, 0, 8) | 4 => (0, 0, 1, 8) | _ => (0, 0, -1, 8)
theorem gm_box {Q : Nat → gm_V} {ac : Nat → Prop} (h : ∀ i, i < 6 → ac i ∧ Q i = gm_bx i) : gm_Bd Q ac := by
  intro d hw hin
  have k := fun i (hi : i < 6) => (h i hi).2 ▸ hin i (h i hi).1
  have h0 := k 0 (by omega)
  have h1 := k 1 (by omega)
  have h2 := k 2 (by omega)
  have h3 := k 3 (by omega)
  have h4 := k 4 (by omega)
  have h5 := k 5 (by omega)
  obtain ⟨x, y, z, w⟩ := d
  simp only [gm_ev, gm_bx] at *
  simp only [Prod.mk.injEq]
  omega
end
end
section
/-! The list of the corners in order: there is only one -/
section
def ls_L (V : gm_V → Prop) (c : Nat) (f : Nat → gm_V) : Prop :=
  (∀ i, i < c → V (f i)) ∧ (∀ i j, i < j → j < c → gm_lt (f i) (f j)) ∧ ∀ p, V p → ∃ i, i < c ∧ f i = p

theorem ls_u1 {V : gm_V → Prop} {c c' : Nat} {f f' : Nat → gm_V} (hV : ∀ p, V p → 0 < p.2.2.2) (h : ls_L V c f) (h' : ls_L V c' f') :
    ∀ i, i < c → i < c' ∧ f i = f' i := by
  obtain ⟨a, b, d⟩ := h
  obtain ⟨a', b', d'⟩ := h'
  intro i
  induction i using Nat.strongRecOn with
  | _ i ih =>
    intro hi
    obtain ⟨j, hj, ej⟩ := d' (f i) (a i hi)
    rcases Nat.lt_trichotomy j i with h | h | h
    · exfalso
      have := (ih j h (by omega)).2
      have l := b j i h hi
      rw [this, ej] at l
      exact gm_lt_asymm l l
    · subst h
      exact ⟨hj, ej.symm⟩
    · have hi' : i < c' := by omega
      obtain ⟨m, hm, em⟩ := d (f' i) (a' i hi')
      have l := b' i j h hj
      rw [ej] at l
      rcases Nat.lt_trichotomy m i with g | g | g
      · exfalso
        have k := (ih m g (by omega)).2
        have l2 := b' m i g hi'
        rw [← k, em] at l2
        exact gm_lt_asymm l2 l2
      · subst g
        exact ⟨hi', em⟩
      · exfalso
        have l2 := b i m g hm
        rw [em] at l2
        exact gm_lt_asymm l l2
theorem ls_u {V : gm_V → Prop} {c c' : Nat} {f f' : Nat → gm_V} (hV : ∀ p, V p → 0 < p.2.2.2) (h : ls_L V c f) (h' : ls_L V c' f') :
    c = c' ∧ ∀ i, i < c → f i = f' i := by
  have k := ls_u1 hV h h'
  have k' := ls_u1 hV h' h
  refine ⟨?_, fun i hi => (k i hi).2⟩
  rcases Nat.lt_trichotomy c c' with g | g | g
  · have := (k' c g).1; omega
  · exact g
  · have := (k c' g).1; omega
theorem ls_cg {V V' : gm_V → Prop} {c : Nat} {f : Nat → gm_V} (e : ∀ p, V p ↔ V' p) (h : ls_L V c f) : ls_L V' c f :=
  ⟨fun i hi => (e _).mp (h.1 i hi), h.2.1, fun p hp => h.2.2 p ((e p).mpr hp)⟩

def ls_ins (f : Nat → gm_V) (p : gm_V) (k : Nat) : Nat → gm_V := fun j => if j < k then f j else if j = k then p else f (j - 1)
theorem ls_ins_sorted {f : Nat → gm_V} {p : gm_V} {k c : Nat} (hs : ∀ i j, i < j → j < c → gm_lt (f i) (f j)) (hk : k ≤ c)
    (h1 : ∀ i, i < k → gm_lt (f i) p) (h2 : ∀ i, k ≤ i → i < c → gm_lt p (f i)) :
    ∀ i j, i < j → j < c + 1 → gm_lt (ls_ins f p k i) (ls_ins f p k j) := by
  intro i j hij hj
  unfold ls_ins
  by_cases a : i < k
  · rw [if_pos a]
    by_cases b : j < k
    · rw [if_pos b]; exact hs i j hij (by omega)
    · rw [if_neg b]
      by_cases d : j = k
      · rw [if_pos d]; exact h1 i a
      · rw [if_neg d]; exact hs i (j - 1) (by omega) (by omega)
  · rw [if_neg a]
    have b : ¬ j < k := by omega
    have d : ¬ j = k := by omega
    rw [if_neg b, if_neg d]
    by_cases e : i = k
    · rw [if_pos e]; exact h2 (j - 1) (by omega) (by omega)
    · rw [if_neg e]; exact hs (i - 1) (j - 1) (by omega) (by omega)
theorem ls_ins_mem {f : Nat → gm_V} {p : gm_V} {k c : Nat} (hk : k ≤ c) (x : gm_V) :
    (∃ i, i < c + 1 ∧ ls_ins f p k i = x) ↔ (x = p ∨ ∃ i, i < c ∧ f i = x) := by
  unfold ls_ins
  constructor
  · intro h
    obtain ⟨i, hi, e⟩ := h
    by_cases a : i < k
    · rw [if_pos a] at e; exact .inr ⟨i, by omega, e⟩
    · rw [if_neg a] at e
      by_cases b : i = k
      · rw [if_pos b] at e; exact .inl e.symm
      · rw [if_neg b] at e; exact .inr ⟨i - 1, by omega, e⟩
  · intro h
    rcases h with h | ⟨i, hi, e⟩
    · refine ⟨k, by omega, ?_⟩
      rw [if_neg (by omega), if_pos rfl]; exact h.symm
    · by_cases a : i < k
      · exact ⟨i, by omega, by rw [if_pos a]; exact e⟩
      · refine ⟨i + 1, by omega, ?_⟩
        rw [if_neg (by omega), if_neg (by omega)]
        exact e
end
end
section
/-! The shadow: points of a plane (x, y over w); the walk around them meets every outer one once -/
section
variable (x y w : Nat → Int)
def sh_D (k l m : Nat) : Int := x k * (y l * w m - y m * w l) - y k * (x l * w m - x m * w l) + w k * (x l * y m - x m * y l)
def sh_sm (k l : Nat) : Prop := x k * w l = x l * w k ∧ y k * w l = y l * w k
/-- the directions from p to j -/
def sh_u (p j : Nat) : Int := x j * w p - x p * w j
def sh_C (p q j : Nat) : Int := sh_u x w p q * sh_u y w p j - sh_u y w p q * sh_u x w p j
def sh_T (p q j : Nat) : Int := sh_u x w p q * sh_u x w p j + sh_u y w p q * sh_u y w p j
def sh_h (a b : Int) (p j : Nat) : Int := a * sh_u x w p j + b * sh_u y w p j
def sh_E (c p : Nat) : Prop := ∃ a b : Int, ∀ j, j < c → ¬ sh_sm x y w j p → 0 < sh_h x y w a b p j
def sh_O (c p : Nat) : Prop := ∃ q, q < c ∧ ¬ sh_sm x y w q p ∧ ∀ j, j < c → ¬ sh_sm x y w j p → 0 < sh_C x y w p q j ∨ (sh_C x y w p q j = 0 ∧ 0 ≤ sh_T x y w p q j)
/-- q is the next one after p, counterclockwise, by the measure (a, b) -/
def sh_G (a b : Int) (p q j : Nat) : Prop :=
  0 < sh_C x y w p q j ∨ (sh_C x y w p q j = 0 ∧ sh_h x y w a b p j * w q ≤ sh_h x y w a b p q * w j)

variable {x y w : Nat → Int}
theorem sh_CD (p q j : Nat) : sh_C x y w p q j = w p * sh_D x y w p q j := by
  simp only [sh_C, sh_D, sh_u]; grind
theorem sh_sm_symm {k l : Nat} (h : sh_sm x y w k l) : sh_sm x y w l k := ⟨h.1.symm, h.2.symm⟩
theorem sh_sm_refl (k : Nat) : sh_sm x y w k k := ⟨rfl, rfl⟩
theorem sh_sm_trans {k l m : Nat} (hl : w l ≠ 0) (h1 : sh_sm x y w k l) (h2 : sh_sm x y w l m) : sh_sm x y w k m := by
  obtain ⟨a, b⟩ := h1
  obtain ⟨c, d⟩ := h2
  constructor
  · apply Int.eq_of_mul_eq_mul_left hl; grind
  · apply Int.eq_of_mul_eq_mul_left hl; grind
theorem sh_sm_u {p j : Nat} : sh_sm x y w j p ↔ sh_u x w p j = 0 ∧ sh_u y w p j = 0 := by
  simp only [sh_sm, sh_u]; omega
/-- the tie of three directions -/
theorem sh_tie (a b : Int) (p q j k : Nat) :
    sh_h x y w a b p q * sh_C x y w p k j = sh_h x y w a b p j * sh_C x y w p k q + sh_h x y w a b p k * sh_C x y w p q j := by
  simp only [sh_h, sh_C]; grind
theorem sh_Cneg (p q j : Nat) : sh_C x y w p j q = -sh_C x y w p q j := by
  simp only [sh_C]; grind
/-- on one ray -/
theorem sh_ray {a b : Int} {p q j : Nat} (h : sh_C x y w p q j = 0) :
    sh_h x y w a b p q * sh_u x w p j = sh_h x y w a b p j * sh_u x w p q ∧ sh_h x y w a b p q * sh_u y w p j = sh_h x y w a b p j * sh_u y w p q := by
  simp only [sh_h, sh_C] at *
  constructor <;> grind

theorem sh_Gtrans {a b : Int} {p q k j : Nat} (wq : 0 < w q) (wk : 0 < w k) (wj : 0 < w j)
    (hq : 0 < sh_h x y w a b p q) (hk : 0 < sh_h x y w a b p k) (hj : 0 < sh_h x y w a b p j)
    (h1 : sh_C x y w p q k < 0 ∨ (sh_C x y w p q k = 0 ∧ sh_h x y w a b p q * w k ≤ sh_h x y w a b p k * w q)) (h2 : sh_G x y w a b p q j) : sh_G x y w a b p k j := by
  have T := sh_tie (x := x) (y := y) (w := w) a b p q j k
  rw [sh_Cneg p q k] at T
  unfold sh_G at *
  rcases h1 with h1 | ⟨h1, g1⟩
  · left
    have t1 := gm_pp hj (show 0 < -sh_C x y w p q k by omega)
    have t2 : 0 ≤ sh_h x y w a b p k * sh_C x y w p q j := gm_nn (by omega) (by omega)
    rcases Int.lt_or_le 0 (sh_C x y w p k j) with g | g
    · exact g
    · have := gm_np (Int.le_of_lt hq) g
      omega
  · rw [h1] at T
    rcases h2 with h2 | ⟨h2, g2⟩
    · left
      have t2 := gm_pp hk h2
      rcases Int.lt_or_le 0 (sh_C x y w p k j) with g | g
      · exact g
      · have := gm_np (Int.le_of_lt hq) g
        simp only [Int.neg_zero, Int.mul_zero] at T
        omega
    · right
      rw [h2] at T
      simp only [Int.neg_zero, Int.mul_zero] at T
      refine ⟨(Int.mul_eq_zero.mp (by omega : sh_h x y w a b p q * sh_C x y w p k j = 0)).resolve_left (by omega), ?_⟩
      apply gm_mul_cancel wq
      have s1 := Int.mul_le_mul_of_nonneg_right g2 (Int.le_of_lt wk)
      have s2 := Int.mul_le_mul_of_nonneg_right g1 (Int.le_of_lt wj)
      have e1 : w q * (sh_h x y w a b p j * w k) = sh_h x y w a b p j * w q * w k := by grind
      have e2 : sh_h x y w a b p q * w j * w k = sh_h x y w a b p q * w k * w j := by grind
      have e3 : w q * (sh_h x y w a b p k * w j) = sh_h x y w a b p k * w q * w j := by grind
      omega

theorem sh_2d {a b e f : Int} (h1 : a * f - b * e = 0) (h2 : a * e + b * f = 0) : (a * a + b * b + 0 * 0) * e = 0 ∧ (a * a + b * b + 0 * 0) * f = 0 := by
  constructor <;> grind
theorem gm_mul_pos {s b : Int} (hs : 0 < s) (h : 0 < s * b) : 0 < b := gm_mul_cancel_lt hs (by rw [Int.mul_zero]; exact h)
theorem sh_bnd (f : Nat → Int) : ∀ c : Nat, ∃ M : Int, 0 < M ∧ ∀ j, j < c → -M < f j ∧ f j < M := by
  intro c
  induction c with
  | zero => exact ⟨1, by omega, fun j hj => by omega⟩
  | succ c ih =>
    obtain ⟨M, h0, h⟩ := ih
    refine ⟨M + (f c).natAbs + 1, by omega, fun j hj => ?_⟩
    by_cases e : j = c
    · subst e; omega
    · have := h j (by omega); omega

theorem sh_mix {M s t : Int} (hM : 0 < M) (ht : -M < t) (h : 0 < s ∨ (s = 0 ∧ 0 < t)) : 0 < M * s + t := by
  rcases h with h | ⟨h, g⟩
  · have := Int.mul_le_mul_of_nonneg_left (show (1 : Int) ≤ s by omega) (Int.le_of_lt hM)
    omega
  · subst h; simp; exact g

theorem sh_E_lex {c s : Nat} (h : ∀ j, j < c → ¬ sh_sm x y w j s → 0 < sh_u x w s j ∨ (sh_u x w s j = 0 ∧ 0 < sh_u y w s j)) : sh_E x y w c s := by
  obtain ⟨M, h0, hM⟩ := sh_bnd (fun j => sh_u y w s j) c
  refine ⟨M, 1, fun j hj hn => ?_⟩
  have := sh_mix h0 (hM j hj).1 (h j hj hn)
  simp only [sh_h]; omega

theorem sh_E_of {c p : Nat} {e1 e2 : Int} (h : ∀ j, j < c → ¬ sh_sm x y w j p →
    0 < e1 * sh_u y w p j - e2 * sh_u x w p j ∨ (e1 * sh_u y w p j - e2 * sh_u x w p j = 0 ∧ 0 < e1 * sh_u x w p j + e2 * sh_u y w p j)) : sh_E x y w c p := by
  obtain ⟨M, h0, hM⟩ := sh_bnd (fun j => e1 * sh_u x w p j + e2 * sh_u y w p j) c
  refine ⟨e1 - M * e2, M * e1 + e2, fun j hj hn => ?_⟩
  have := sh_mix h0 (hM j hj).1 (h j hj hn)
  have e : sh_h x y w (e1 - M * e2) (M * e1 + e2) p j = M * (e1 * sh_u y w p j - e2 * sh_u x w p j) + (e1 * sh_u x w p j + e2 * sh_u y w p j) := by
    simp only [sh_h]; grind
  rw [e]; exact this

/-- outer by a bounding neighbour is outer by a measure -/
theorem sh_E_O {c p : Nat} (h : sh_O x y w c p) : sh_E x y w c p := by
  obtain ⟨q, hq, hn, hb⟩ := h
  refine sh_E_of (e1 := sh_u x w p q) (e2 := sh_u y w p q) (fun j hj jn => ?_)
  rcases hb j hj jn with g | ⟨g, t⟩
  · exact .inl g
  · refine .inr ⟨g, ?_⟩
    have t' : 0 ≤ sh_u x w p q * sh_u x w p j + sh_u y w p q * sh_u y w p j := t
    have g' : sh_u x w p q * sh_u y w p j - sh_u y w p q * sh_u x w p j = 0 := g
    rcases Int.lt_or_le 0 (sh_u x w p q * sh_u x w p j + sh_u y w p q * sh_u y w p j) with k | k
    · exact k
    · exfalso
      have z : sh_u x w p q * sh_u x w p j + sh_u y w p q * sh_u y w p j = 0 := by omega
      apply jn
      apply sh_sm_u.mpr
      have nz : sh_u x w p q * sh_u x w p q + sh_u y w p q * sh_u y w p q + 0 * 0 ≠ 0 := fun e => hn (sh_sm_u.mpr ⟨(gm_sq _ _ _ e).1, (gm_sq _ _ _ e).2.1⟩)
      constructor
      · exact (Int.mul_eq_zero.mp (sh_2d g' z).1).resolve_left nz
      · exact (Int.mul_eq_zero.mp (sh_2d g' z).2).resolve_left nz

/-- the next one is a bounding neighbour -/
theorem sh_O_G {c p q : Nat} {a b : Int} (hq : q < c) (hn : ¬ sh_sm x y w q p) (hE : ∀ j, j < c → ¬ sh_sm x y w j p → 0 < sh_h x y w a b p j)
    (hG : ∀ j, j < c → ¬ sh_sm x y w j p → sh_G x y w a b p q j) : sh_O x y w c p := by
  refine ⟨q, hq, hn, fun j hj jn => ?_⟩
  rcases hG j hj jn with g | ⟨g, _⟩
  · exact .inl g
  · refine .inr ⟨g, ?_⟩
    obtain ⟨r1, r2⟩ := sh_ray (a := a) (b := b) g
    have hhq := hE q hq hn
    have hhj := hE j hj jn
    apply gm_mul_cancel hhq
    have e : sh_h x y w a b p q * sh_T x y w p q j = sh_h x y w a b p j * (sh_u x w p q * sh_u x w p q + sh_u y w p q * sh_u y w p q) := by
      simp only [sh_T]; grind
    rw [e]
    have s1 := gm_sn (sh_u x w p q)
    have s2 := gm_sn (sh_u y w p q)
    have := gm_nn (Int.le_of_lt hhj) (show 0 ≤ sh_u x w p q * sh_u x w p q + sh_u y w p q * sh_u y w p q by omega)
    omega

/-- the next one is outer too -/
theorem sh_E_next {c p q : Nat} {a b : Int} (hw : ∀ j, j < c → 0 < w j) (hp : p < c) (hq : q < c) (hn : ¬ sh_sm x y w q p)
    (hE : ∀ j, j < c → ¬ sh_sm x y w j p → 0 < sh_h x y w a b p j) (hG : ∀ j, j < c → ¬ sh_sm x y w j p → sh_G x y w a b p q j) : sh_E x y w c q := by
  have wp := hw p hp
  have wq := hw q hq
  have hhq := hE q hq hn
  -- measure: left of the way from p to q, then back towards p
  obtain ⟨M, h0, hM⟩ := sh_bnd (fun j => -(sh_u x w p q * sh_u x w q j + sh_u y w p q * sh_u y w q j)) c
  refine ⟨-sh_u x w p q - M * sh_u y w p q, M * sh_u x w p q - sh_u y w p q, fun j hj jn => ?_⟩
  have wj := hw j hj
  have hcr : 0 < sh_u x w p q * sh_u y w q j - sh_u y w p q * sh_u x w q j ∨
      (sh_u x w p q * sh_u y w q j - sh_u y w p q * sh_u x w q j = 0 ∧ 0 < -(sh_u x w p q * sh_u x w q j + sh_u y w p q * sh_u y w q j)) := by
    have e1 : w p * (sh_u x w p q * sh_u y w q j - sh_u y w p q * sh_u x w q j) = w q * sh_C x y w p q j := by
      simp only [sh_C, sh_u]; grind
    have sq : 0 < sh_u x w p q * sh_u x w p q + sh_u y w p q * sh_u y w p q := by
      have s1 := gm_sn (sh_u x w p q)
      have s2 := gm_sn (sh_u y w p q)
      rcases Int.lt_or_le 0 (sh_u x w p q * sh_u x w p q + sh_u y w p q * sh_u y w p q) with k | k
      · exact k
      · exact absurd (sh_sm_u.mpr ⟨(gm_sq (sh_u x w p q) (sh_u y w p q) 0 (by omega)).1, (gm_sq (sh_u x w p q) (sh_u y w p q) 0 (by omega)).2.1⟩) hn
    have e2 : w p * -(sh_u x w p q * sh_u x w q j + sh_u y w p q * sh_u y w q j)
        = w j * (sh_u x w p q * sh_u x w p q + sh_u y w p q * sh_u y w p q) - w q * sh_T x y w p q j := by
      simp only [sh_T, sh_u]; grind
    by_cases js : sh_sm x y w j p
    · obtain ⟨z1, z2⟩ := sh_sm_u.mp js
      right
      constructor
      · have : w p * (sh_u x w p q * sh_u y w q j - sh_u y w p q * sh_u x w q j) = 0 := by
          rw [e1]; simp only [sh_C, z1, z2]; simp
        exact (Int.mul_eq_zero.mp this).resolve_left (by omega)
      · apply gm_mul_cancel_lt wp
        rw [e2]
        simp only [sh_T, z1, z2]
        have := gm_pp wj sq
        simp only [Int.mul_zero, Int.add_zero, Int.sub_zero]
        exact this
    · rcases hG j hj js with g | ⟨g, gh⟩
      · left
        apply gm_mul_cancel_lt wp
        rw [e1, Int.mul_zero]
        exact gm_pp wq g
      · right
        have z : sh_u x w p q * sh_u y w q j - sh_u y w p q * sh_u x w q j = 0 := by
          have : w p * (sh_u x w p q * sh_u y w q j - sh_u y w p q * sh_u x w q j) = 0 := by rw [e1, g]; simp
          exact (Int.mul_eq_zero.mp this).resolve_left (by omega)
        refine ⟨z, ?_⟩
        obtain ⟨r1, r2⟩ := sh_ray (a := a) (b := b) g
        have e3 : sh_h x y w a b p q * sh_T x y w p q j = sh_h x y w a b p j * (sh_u x w p q * sh_u x w p q + sh_u y w p q * sh_u y w p q) := by
          simp only [sh_T]; grind
        have e4 : sh_h x y w a b p q * (w p * -(sh_u x w p q * sh_u x w q j + sh_u y w p q * sh_u y w q j))
            = (sh_h x y w a b p q * w j - sh_h x y w a b p j * w q) * (sh_u x w p q * sh_u x w p q + sh_u y w p q * sh_u y w p q) := by
          rw [e2]; grind
        have nn : 0 < sh_h x y w a b p q * w j - sh_h x y w a b p j * w q := by
          rcases Int.lt_or_le 0 (sh_h x y w a b p q * w j - sh_h x y w a b p j * w q) with k | k
          · exact k
          · exfalso
            apply jn
            have k0 : sh_h x y w a b p q * w j = sh_h x y w a b p j * w q := by omega
            have f1 : sh_h x y w a b p q * (w p * sh_u x w q j) = 0 := by
              have : w p * sh_u x w q j = w q * sh_u x w p j - w j * sh_u x w p q := by simp only [sh_u]; grind
              rw [this]; grind
            have f2 : sh_h x y w a b p q * (w p * sh_u y w q j) = 0 := by
              have : w p * sh_u y w q j = w q * sh_u y w p j - w j * sh_u y w p q := by simp only [sh_u]; grind
              rw [this]; grind
            have g1 := (Int.mul_eq_zero.mp ((Int.mul_eq_zero.mp f1).resolve_left (by omega))).resolve_left (by omega)
            have g2 := (Int.mul_eq_zero.mp ((Int.mul_eq_zero.mp f2).resolve_left (by omega))).resolve_left (by omega)
            exact sh_sm_u.mpr ⟨g1, g2⟩
        have pos := gm_pp nn sq
        rw [← e4] at pos
        exact gm_mul_pos wp (gm_mul_pos hhq pos)
  have := sh_mix h0 (hM j hj).1 hcr
  have e : sh_h x y w (-sh_u x w p q - M * sh_u y w p q) (M * sh_u x w p q - sh_u y w p q) q j
      = M * (sh_u x w p q * sh_u y w q j - sh_u y w p q * sh_u x w q j) + -(sh_u x w p q * sh_u x w q j + sh_u y w p q * sh_u y w q j) := by
    simp only [sh_h]; grind
  rw [e]; exact this

/-- an outer point is no mean of others -/
theorem sh_mean {c r s p q : Nat} {A B C : Int} (hE : sh_E x y w c r) (hs : s < c) (hp : p < c) (hq : q < c)
    (ns : ¬ sh_sm x y w s r) (np : ¬ sh_sm x y w p r) (nq : ¬ sh_sm x y w q r) (hA : 0 ≤ A) (hB : 0 < B) (hC : 0 < C)
    (K : Int) (e1 : K * x r = A * x s + B * x p + C * x q) (e2 : K * y r = A * y s + B * y p + C * y q) (e3 : K * w r = A * w s + B * w p + C * w q) : False := by
  obtain ⟨a, b, h⟩ := hE
  have h1 := h s hs ns
  have h2 := h p hp np
  have h3 := h q hq nq
  have e : A * sh_h x y w a b r s + B * sh_h x y w a b r p + C * sh_h x y w a b r q = 0 := by
    have : A * sh_h x y w a b r s + B * sh_h x y w a b r p + C * sh_h x y w a b r q =
        a * ((A * x s + B * x p + C * x q) * w r - x r * (A * w s + B * w p + C * w q)) + b * ((A * y s + B * y p + C * y q) * w r - y r * (A * w s + B * w p + C * w q)) := by
      simp only [sh_h, sh_u]; grind
    rw [this, ← e1, ← e2, ← e3]; grind
  have t1 := gm_nn hA (Int.le_of_lt h1)
  have t2 := gm_pp hB h2
  have t3 := gm_pp hC h3
  omega
theorem sh_comb (s p q r : Nat) : sh_D x y w s p q * x r = sh_D x y w p q r * x s + sh_D x y w s r q * x p + sh_D x y w s p r * x q ∧
    sh_D x y w s p q * y r = sh_D x y w p q r * y s + sh_D x y w s r q * y p + sh_D x y w s p r * y q ∧
    sh_D x y w s p q * w r = sh_D x y w p q r * w s + sh_D x y w s r q * w p + sh_D x y w s p r * w q := by
  simp only [sh_D]
  refine ⟨?_, ?_, ?_⟩ <;> grind
end
end
section
/-! The walk around the shadow: what it has met, and how many there are -/
section
theorem sh_cn_rm {P : Nat → Prop} {a : Nat} (ha : P a) : ∀ c : Nat, a < c → gm_cn P c = gm_cn (fun i => P i ∧ i ≠ a) c + 1 := by
  intro c
  induction c with
  | zero => intro h; omega
  | succ c ih =>
    intro h
    by_cases e : a = c
    · subst e
      rw [gm_cn_t ha, gm_cn_f (P := fun i => P i ∧ i ≠ a) (fun h => h.2 rfl)]
      have h1 := gm_cn_le (P := P) (P' := fun i => P i ∧ i ≠ a) a (fun i hi hp => ⟨hp, by omega⟩)
      have h2 := gm_cn_le (P := fun i => P i ∧ i ≠ a) (P' := P) a (fun i hi hp => hp.1)
      omega
    · have := ih (by omega)
      by_cases p : P c
      · rw [gm_cn_t p, gm_cn_t (P := fun i => P i ∧ i ≠ a) ⟨p, fun h => e h.symm⟩]; omega
      · rw [gm_cn_f p, gm_cn_f (P := fun i => P i ∧ i ≠ a) (fun h => p h.1)]; omega
theorem sh_cn_0 {P : Nat → Prop} : ∀ c : Nat, (∀ i, i < c → ¬ P i) → gm_cn P c = 0 := by
  intro c
  induction c with
  | zero => intro _; rfl
  | succ c ih => intro h; rw [gm_cn_f (h c (by omega))]; exact ih (fun i hi => h i (by omega))
theorem sh_cn_bij (c : Nat) (g : Nat → Nat) : ∀ (m : Nat) (P : Nat → Prop), (∀ t, t < m → g t < c ∧ P (g t)) → (∀ s t, s < t → t < m → g s ≠ g t) →
    (∀ k, k < c → P k → ∃ t, t < m ∧ g t = k) → gm_cn P c = m := by
  intro m
  induction m with
  | zero => intro P _ _ h; exact sh_cn_0 c (fun i hi hp => by obtain ⟨t, ht, _⟩ := h i hi hp; omega)
  | succ m ih =>
    intro P h1 h2 h3
    rw [sh_cn_rm (h1 m (by omega)).2 c (h1 m (by omega)).1]
    rw [ih (fun i => P i ∧ i ≠ g m) (fun t ht => ⟨(h1 t (by omega)).1, (h1 t (by omega)).2, h2 t m ht (by omega)⟩) (fun s t a b => h2 s t a (by omega)) (fun k hk hp => by
      obtain ⟨t, ht, e⟩ := h3 k hk hp.1
      refine ⟨t, ?_, e⟩
      by_cases e2 : t = m
      · subst e2; exact absurd e.symm hp.2
      · omega)]
theorem sh_surj {c : Nat} {P : Nat → Nat} (h1 : ∀ t, t < c → P t < c) (h2 : ∀ s t, s < t → t < c → P s ≠ P t) {k : Nat} (hk : k < c) : ∃ t, t < c ∧ P t = k := by
  apply Classical.byContradiction
  intro hn
  have hne : ∀ t, t < c → P t ≠ k := fun t ht e => hn ⟨t, ht, e⟩
  have := gm_pigeon (c - 1) c (fun t => if k < P t then P t - 1 else P t) (fun i hi => by
    have a := h1 i hi
    have b := hne i hi
    split <;> omega) (fun i j hij hj => by
    have a := h2 i j hij hj
    have b := hne i (by omega)
    have d := hne j hj
    split <;> split <;> omega)
  omega

variable {x y w : Nat → Int} {c : Nat}
theorem sh_col {p q r : Nat} (hw : ∀ j, j < c → 0 < w j) (hp : p < c) (hq : q < c) (hr : r < c) (ep : sh_E x y w c p) (eq : sh_E x y w c q) (er : sh_E x y w c r)
    (npq : ¬ sh_sm x y w q p) (npr : ¬ sh_sm x y w r p) (nqr : ¬ sh_sm x y w q r) : sh_D x y w p q r ≠ 0 := by
  intro h0
  obtain ⟨a, b, h⟩ := ep
  have hhq := h q hq npq
  have hhr := h r hr npr
  have wp := hw p hp
  have wq := hw q hq
  have wr := hw r hr
  have hc : sh_C x y w p q r = 0 := by rw [sh_CD, h0]; simp
  obtain ⟨r1, r2⟩ := sh_ray (a := a) (b := b) hc
  generalize sh_h x y w a b p q = H at *
  generalize sh_h x y w a b p r = K at *
  rcases Int.lt_trichotomy (H * w r) (K * w q) with g | g | g
  · refine sh_mean (A := 0) (B := K * w q - H * w r) (C := H * w p) (s := p) (p := p) (q := r) (r := q) eq hp hp hr
      (fun h => npq (sh_sm_symm h)) (fun h => npq (sh_sm_symm h)) (fun h => nqr (sh_sm_symm h)) (by omega) (by omega) (gm_pp hhq wp) (K * w p) ?_ ?_ ?_
    · simp only [sh_u] at r1; grind
    · simp only [sh_u] at r2; grind
    · grind
  · apply nqr
    constructor
    · have n : H * w p ≠ 0 := by have := gm_pp hhq wp; omega
      apply Int.eq_of_mul_eq_mul_left n
      simp only [sh_u] at r1; grind
    · have n : H * w p ≠ 0 := by have := gm_pp hhq wp; omega
      apply Int.eq_of_mul_eq_mul_left n
      simp only [sh_u] at r2; grind
  · refine sh_mean (A := 0) (B := H * w r - K * w q) (C := K * w p) (s := p) (p := p) (q := q) (r := r) er hp hp hq
      (fun h => npr (sh_sm_symm h)) (fun h => npr (sh_sm_symm h)) nqr (by omega) (by omega) (gm_pp hhr wp) (H * w p) ?_ ?_ ?_
    · simp only [sh_u] at r1; grind
    · simp only [sh_u] at r2; grind
    · grind

def sh_N (x y w : Nat → Int) (c p q : Nat) : Prop :=
  q < c ∧ ¬ sh_sm x y w q p ∧ ∃ a b : Int, (∀ j, j < c → ¬ sh_sm x y w j p → 0 < sh_h x y w a b p j) ∧ ∀ j, j < c → ¬ sh_sm x y w j p → sh_G x y w a b p q j
theorem sh_Dcyc (p q r : Nat) : sh_D x y w q r p = sh_D x y w p q r := by simp only [sh_D]; grind
theorem sh_Dswp (p q r : Nat) : sh_D x y w q p r = -sh_D x y w p q r := by simp only [sh_D]; grind
theorem sh_Dsm {p q r s : Nat} (h : sh_sm x y w r s) : sh_D x y w p q r * w s = sh_D x y w p q s * w r := by
  obtain ⟨a, b⟩ := h
  simp only [sh_D]; grind
theorem sh_Dpqp (p q : Nat) : sh_D x y w p q p = 0 := by simp only [sh_D]; grind
theorem sh_Dqq (p q : Nat) : sh_D x y w p q q = 0 := by simp only [sh_D]; grind
theorem sh_N_D {p q j : Nat} (hw : ∀ j, j < c → 0 < w j) (hp : p < c) (h : sh_N x y w c p q) (hj : j < c) : 0 ≤ sh_D x y w p q j := by
  have wp := hw p hp
  by_cases s : sh_sm x y w j p
  · have := sh_Dsm (p := p) (q := q) s
    rw [sh_Dpqp] at this
    have wj := hw j hj
    have : sh_D x y w p q j = 0 := (Int.mul_eq_zero.mp (by omega : sh_D x y w p q j * w p = 0)).resolve_right (by omega)
    omega
  · obtain ⟨_, _, a, b, _, hG⟩ := h
    have : 0 ≤ sh_C x y w p q j := by
      rcases hG j hj s with g | ⟨g, _⟩ <;> omega
    rw [sh_CD] at this
    exact gm_mul_cancel wp (by omega)
theorem sh_Dsm0 {p q r : Nat} (wq : 0 < w q) (h : sh_sm x y w r q) : sh_D x y w p q r = 0 := by
  have := sh_Dsm (p := p) (q := q) h
  rw [sh_Dqq] at this
  exact (Int.mul_eq_zero.mp (by omega : sh_D x y w p q r * w q = 0)).resolve_right (by omega)

/-- what the walk has met after i steps -/
def sh_I (x y w : Nat → Int) (c : Nat) (P : Nat → Nat) (i : Nat) : Prop :=
  (∀ t, t ≤ i → P t < c ∧ sh_E x y w c (P t)) ∧ (∀ t, 1 ≤ t → t ≤ i → ¬ sh_sm x y w (P t) (P 0)) ∧
  (∀ r, r < c → sh_E x y w c r → ¬ sh_sm x y w r (P 0) → ((∃ t, 1 ≤ t ∧ t ≤ i ∧ sh_sm x y w r (P t)) ↔ ¬ 0 < sh_D x y w (P 0) (P i) r)) ∧
  (∀ s t, s < t → t ≤ i → ¬ sh_sm x y w (P t) (P s))

theorem sh_I1 {P : Nat → Nat} (hw : ∀ j, j < c → 0 < w j) (h0 : P 0 < c) (hE : sh_E x y w c (P 0)) (hN : sh_N x y w c (P 0) (P 1)) : sh_I x y w c P 1 := by
  have hN' := hN
  obtain ⟨q1, q2, a, b, q3, q4⟩ := hN
  have e1 := sh_E_next hw h0 q1 q2 q3 q4
  refine ⟨fun t ht => ?_, fun t h1 h2 => ?_, fun r hr re rn => ?_, fun s t hst ht => ?_⟩
  · have : t = 0 ∨ t = 1 := by omega
    rcases this with e | e <;> subst e
    · exact ⟨h0, hE⟩
    · exact ⟨q1, e1⟩
  · have : t = 1 := by omega
    subst this; exact q2
  · constructor
    · intro h
      obtain ⟨t, h1, h2, h3⟩ := h
      have : t = 1 := by omega
      subst this
      rw [sh_Dsm0 (hw _ q1) h3]; omega
    · intro h
      refine ⟨1, by omega, by omega, ?_⟩
      apply Classical.byContradiction
      intro hn
      have k := sh_N_D hw h0 hN' hr
      have := sh_col hw h0 q1 hr hE e1 re q2 rn (fun h => hn (sh_sm_symm h))
      omega
  · have : s = 0 ∧ t = 1 := by omega
    obtain ⟨a, b⟩ := this
    subst a b
    exact q2

theorem sh_Is {P : Nat → Nat} {i : Nat} (hw : ∀ j, j < c → 0 < w j) (hi : 1 ≤ i) (h : sh_I x y w c P i) (hN : sh_N x y w c (P i) (P (i + 1)))
    (hns : ¬ sh_sm x y w (P (i + 1)) (P 0)) : sh_I x y w c P (i + 1) := by
  have hN' := hN
  obtain ⟨q1, q2, a, b, q3, q4⟩ := hN
  obtain ⟨i1, i2, i3, i4⟩ := h
  have pc := (i1 i (by omega)).1
  have pE := (i1 i (by omega)).2
  have sc := (i1 0 (by omega)).1
  have sE := (i1 0 (by omega)).2
  have ps := i2 i hi (by omega)
  have qE := sh_E_next hw pc q1 q2 q3 q4
  have hD : 0 < sh_D x y w (P 0) (P i) (P (i + 1)) := by
    have k := sh_N_D hw pc hN' sc
    rw [sh_Dcyc (P 0) (P i) (P (i + 1))] at k
    have := sh_col hw sc pc q1 sE pE qE ps hns (fun h => q2 (sh_sm_symm h))
    omega
  obtain ⟨sa, sb, sh⟩ := sE
  refine ⟨fun t ht => ?_, fun t h1 h2 => ?_, fun r hr re rn => ?_, fun s t hst ht => ?_⟩
  · by_cases e : t = i + 1
    · subst e; exact ⟨q1, qE⟩
    · exact i1 t (by omega)
  · by_cases e : t = i + 1
    · subst e; exact hns
    · exact i2 t h1 (by omega)
  · constructor
    · intro h
      obtain ⟨t, h1, h2, h3⟩ := h
      by_cases e : t = i + 1
      · subst e
        rw [sh_Dsm0 (hw _ q1) h3]; omega
      · have k := (i3 r hr re rn).mp ⟨t, h1, by omega, h3⟩
        intro hpos
        have T := sh_tie (x := x) (y := y) (w := w) sa sb (P 0) (P i) r (P (i + 1))
        have w0 := hw _ sc
        have hp := sh _ pc ps
        have hr' := sh r hr rn
        have hq := sh _ q1 hns
        rw [sh_CD, sh_CD, sh_CD] at T
        have f0 : sh_D x y w (P 0) (P (i + 1)) (P i) = -sh_D x y w (P 0) (P i) (P (i + 1)) := by
          rw [← sh_Dcyc, sh_Dswp, sh_Dcyc]
        rw [f0] at T
        have f1 := gm_pp hp (gm_pp w0 hpos)
        have f2 := gm_pp hr' (gm_pp w0 hD)
        have f3 := gm_np (Int.le_of_lt hq) (gm_np (Int.le_of_lt w0) (show sh_D x y w (P 0) (P i) r ≤ 0 by omega))
        have e4 : sh_h x y w sa sb (P 0) r * (w (P 0) * -sh_D x y w (P 0) (P i) (P (i + 1))) = -(sh_h x y w sa sb (P 0) r * (w (P 0) * sh_D x y w (P 0) (P i) (P (i + 1)))) := by grind
        omega
    · intro h
      by_cases e : sh_sm x y w r (P (i + 1))
      · exact ⟨i + 1, by omega, by omega, e⟩
      · by_cases k : 0 < sh_D x y w (P 0) (P i) r
        · exfalso
          have c1 := sh_col hw sc q1 hr ⟨sa, sb, sh⟩ qE re hns rn (fun h => e (sh_sm_symm h))
          have f0 : sh_D x y w (P 0) r (P (i + 1)) = -sh_D x y w (P 0) (P (i + 1)) r := by
            rw [← sh_Dcyc, sh_Dswp, sh_Dcyc]
          have rp : ¬ sh_sm x y w r (P i) := fun h => by
            have := sh_Dsm0 (p := P 0) (hw _ pc) h
            omega
          obtain ⟨m1, m2, m3⟩ := sh_comb (x := x) (y := y) (w := w) (P 0) (P i) (P (i + 1)) r
          exact sh_mean re sc pc q1 (fun h => rn (sh_sm_symm h)) (fun h => rp (sh_sm_symm h)) (fun h => e (sh_sm_symm h))
            (sh_N_D hw pc hN' hr) (show 0 < sh_D x y w (P 0) r (P (i + 1)) by omega) k _ m1 m2 m3
        · obtain ⟨t, h1, h2, h3⟩ := (i3 r hr re rn).mpr k
          exact ⟨t, h1, by omega, h3⟩
  · by_cases e : t = i + 1
    · subst e
      by_cases e0 : s = 0
      · subst e0; exact hns
      · intro hh
        have := (i3 _ q1 qE hns).mp ⟨s, by omega, by omega, hh⟩
        exact this hD
    · exact i4 s t hst (by omega)

/-- back at the start: all outer ones are met -/
theorem sh_end {P : Nat → Nat} {i : Nat} (hw : ∀ j, j < c → 0 < w j) (hi : 1 ≤ i) (h : sh_I x y w c P i) {q : Nat} (hN : sh_N x y w c (P i) q)
    (hs : sh_sm x y w q (P 0)) : ∀ r, r < c → sh_E x y w c r → ∃ t, t ≤ i ∧ sh_sm x y w r (P t) := by
  intro r hr re
  obtain ⟨i1, i2, i3, i4⟩ := h
  by_cases rn : sh_sm x y w r (P 0)
  · exact ⟨0, by omega, rn⟩
  · have pc := (i1 i (by omega)).1
    have sc := (i1 0 (by omega)).1
    have k := sh_N_D hw pc hN hr
    have e1 : sh_D x y w r (P i) q * w (P 0) = sh_D x y w r (P i) (P 0) * w q := sh_Dsm hs
    have wq := hw q hN.1
    have ws := hw _ sc
    have : ¬ 0 < sh_D x y w (P 0) (P i) r := by
      intro hp
      have f1 : sh_D x y w r (P i) (P 0) = -sh_D x y w (P 0) (P i) r := by
        simp only [sh_D]; grind
      have f2 : sh_D x y w r (P i) q = sh_D x y w (P i) q r := (sh_Dcyc r (P i) q).symm
      rw [f1, f2] at e1
      have g1 := gm_nn k (Int.le_of_lt ws)
      have g2 := gm_pp hp wq
      have e2 : -sh_D x y w (P 0) (P i) r * w q = -(sh_D x y w (P 0) (P i) r * w q) := by grind
      omega
    obtain ⟨t, _, h2, h3⟩ := (i3 r hr re rn).mpr this
    exact ⟨t, h2, h3⟩

theorem sh_E_sm {p p' : Nat} (hw : ∀ j, j < c → 0 < w j) (hp : p < c) (hp' : p' < c) (h : sh_sm x y w p p') (e : sh_E x y w c p) : sh_E x y w c p' := by
  obtain ⟨a, b, k⟩ := e
  have w1 := hw p hp
  have w2 := hw p' hp'
  refine ⟨a, b, fun j hj hn => ?_⟩
  have := k j hj (fun g => hn (sh_sm_trans (by omega) g h))
  apply gm_mul_cancel_lt w1
  have e1 : w p * sh_h x y w a b p' j = w p' * sh_h x y w a b p j := by
    obtain ⟨u, v⟩ := h
    simp only [sh_h, sh_u]; grind
  rw [e1, Int.mul_zero]
  exact gm_pp w2 this

theorem sh_cnt {P : Nat → Nat} {m : Nat} (hw : ∀ j, j < c → 0 < w j) (h1 : ∀ t, t < m → P t < c ∧ sh_E x y w c (P t))
    (h2 : ∀ s t, s < t → t < m → ¬ sh_sm x y w (P t) (P s)) (h3 : ∀ r, r < c → sh_E x y w c r → ∃ t, t < m ∧ sh_sm x y w r (P t)) :
    gm_cn (fun k => (∀ j, j < k → ¬ sh_sm x y w j k) ∧ sh_E x y w c k) c = m := by
  have hg : ∀ t : Nat, ∃ k : Nat, t < m → (k < c ∧ sh_sm x y w k (P t) ∧ ∀ j, j < k → ¬ sh_sm x y w j (P t)) := by
    intro t
    by_cases ht : t < m
    · have : ∀ n k, k < n → sh_sm x y w k (P t) → ∃ k', k' ≤ k ∧ sh_sm x y w k' (P t) ∧ ∀ j, j < k' → ¬ sh_sm x y w j (P t) := by
        intro n
        induction n with
        | zero => intro k hk; omega
        | succ n ih =>
          intro k hk hs
          by_cases hx : ∃ j, j < k ∧ sh_sm x y w j (P t)
          · obtain ⟨j, hj, js⟩ := hx
            obtain ⟨k', a, b⟩ := ih j (by omega) js
            exact ⟨k', by omega, b⟩
          · exact ⟨k, by omega, hs, fun j hj js => hx ⟨j, hj, js⟩⟩
      obtain ⟨k', a, b⟩ := this (P t + 1) (P t) (by omega) (sh_sm_refl _)
      have := (h1 t ht).1
      exact ⟨k', fun _ => ⟨by omega, b⟩⟩
    · exact ⟨0, fun h => absurd h ht⟩
  obtain ⟨g, hg⟩ := Classical.skolem.mp hg
  refine sh_cn_bij c g m _ (fun t ht => ?_) (fun s t hst ht e => ?_) (fun k hk hp => ?_)
  · obtain ⟨a, b, d⟩ := hg t ht
    obtain ⟨pc, pe⟩ := h1 t ht
    have wg := hw _ a
    have wp := hw _ pc
    exact ⟨a, fun j hj js => d j hj (sh_sm_trans (by omega) js b), sh_E_sm hw pc a (sh_sm_symm b) pe⟩
  · obtain ⟨a, b, _⟩ := hg s (by omega)
    obtain ⟨a', b', _⟩ := hg t ht
    rw [e] at b
    have wg := hw _ a'
    exact h2 s t hst ht (sh_sm_trans (by omega) (sh_sm_symm b') b)
  · obtain ⟨t, ht, hs⟩ := h3 k hk hp.2
    refine ⟨t, ht, ?_⟩
    obtain ⟨a, b, d⟩ := hg t ht
    have wp := hw _ (h1 t ht).1
    rcases Nat.lt_trichotomy (g t) k with e | e | e
    · exact absurd (sh_sm_trans (by omega) b (sh_sm_symm hs)) (hp.1 _ e)
    · exact e
    · exact absurd hs (d k e)
end
end
section
/-! Steps from neighbour to neighbour -/
section
def hp_R (N : Nat → Nat → Prop) (c k : Nat) : Nat → Nat → Prop
  | 0 => fun v => v = k
  | t + 1 => fun v => hp_R N c k t v ∨ ∃ u, u < c ∧ hp_R N c k t u ∧ N u v
/-- exactly t steps away -/
def hp_D (N : Nat → Nat → Prop) (c k t v : Nat) : Prop := hp_R N c k t v ∧ ∀ s, s < t → ¬ hp_R N c k s v
variable {N : Nat → Nat → Prop} {c k : Nat}
theorem hp_up {t v : Nat} (h : hp_R N c k t v) : ∀ d, hp_R N c k (t + d) v := by
  intro d
  induction d with
  | zero => exact h
  | succ d ih => exact .inl ih
theorem hp_mono {t t' v : Nat} (h : hp_R N c k t v) (ht : t ≤ t') : hp_R N c k t' v := by
  have := hp_up h (t' - t)
  rwa [Nat.add_sub_cancel' ht] at this
theorem hp_ex : ∀ {t v : Nat}, hp_R N c k t v → ∃ d, d ≤ t ∧ hp_D N c k d v := by
  intro t
  induction t using Nat.strongRecOn with
  | _ t ih =>
    intro v h
    by_cases hx : ∃ s, s < t ∧ hp_R N c k s v
    · obtain ⟨s, hs, hr⟩ := hx
      obtain ⟨d, hd, h2⟩ := ih s hs hr
      exact ⟨d, by omega, h2⟩
    · exact ⟨t, Nat.le_refl _, h, fun s hs hr => hx ⟨s, hs, hr⟩⟩
theorem hp_Du {s t v : Nat} (h1 : hp_D N c k s v) (h2 : hp_D N c k t v) : s = t := by
  rcases Nat.lt_trichotomy s t with g | g | g
  · exact absurd h1.1 (h2.2 s g)
  · exact g
  · exact absurd h2.1 (h1.2 t g)
theorem hp_D0 {v : Nat} (h : hp_D N c k 0 v) : v = k := h.1
theorem hp_Dk : hp_D N c k 0 k := ⟨rfl, fun s hs => by omega⟩
theorem hp_Ds {t v : Nat} (h : hp_D N c k (t + 1) v) : ∃ u, u < c ∧ hp_D N c k t u ∧ N u v := by
  obtain ⟨h1, h2⟩ := h
  rcases h1 with h1 | ⟨u, hu, hr, hn⟩
  · exact absurd h1 (h2 t (by omega))
  · refine ⟨u, hu, ⟨hr, fun s hs hr2 => ?_⟩, hn⟩
    exact h2 (s + 1) (by omega) (.inr ⟨u, hu, hr2, hn⟩)
theorem hp_Dn {t u v : Nat} (hu : u < c) (h : hp_D N c k t u) (hn : N u v) : ∃ d, d ≤ t + 1 ∧ hp_D N c k d v :=
  hp_ex (t := t + 1) (.inr ⟨u, hu, h.1, hn⟩)
theorem hp_chain : ∀ (t v : Nat), v < c → hp_D N c k t v → ∃ g : Nat → Nat, ∀ s, s ≤ t → g s < c ∧ hp_D N c k s (g s) := by
  intro t
  induction t with
  | zero => intro v hv h; exact ⟨fun _ => v, fun s hs => by have : s = 0 := by omega
                                                            subst this; exact ⟨hv, h⟩⟩
  | succ t ih =>
    intro v hv h
    obtain ⟨u, hu, hd, _⟩ := hp_Ds h
    obtain ⟨g, hg⟩ := ih u hu hd
    refine ⟨fun s => if s = t + 1 then v else g s, fun s hs => ?_⟩
    by_cases e : s = t + 1
    · subst e; dsimp only; rw [if_pos rfl]; exact ⟨hv, h⟩
    · dsimp only; rw [if_neg e]; exact hg s (by omega)
theorem hp_bound {t v : Nat} (hv : v < c) (h : hp_D N c k t v) : t < c := by
  obtain ⟨g, hg⟩ := hp_chain t v hv h
  have := gm_pigeon c (t + 1) g (fun i hi => (hg i (by omega)).1) (fun i j hij hj e => by
    have a := (hg i (by omega)).2
    have b := (hg j (by omega)).2
    rw [e] at a
    have := hp_Du a b
    omega)
  omega
theorem hp_conn {l : Nat} (mu : Nat → Nat) (h : ∀ v, v < c → v ≠ l → ∃ u, u < c ∧ N v u ∧ mu u < mu v) :
    ∀ (m v t : Nat), v < c → hp_R N c k t v → mu v ≤ m → ∃ t', hp_R N c k t' l := by
  intro m
  induction m with
  | zero =>
    intro v t hv hr hm
    by_cases e : v = l
    · subst e; exact ⟨t, hr⟩
    · obtain ⟨u, hu, hn, hl⟩ := h v hv e
      omega
  | succ m ih =>
    intro v t hv hr hm
    by_cases e : v = l
    · subst e; exact ⟨t, hr⟩
    · obtain ⟨u, hu, hn, hl⟩ := h v hv e
      exact ih u (t + 1) hu (.inr ⟨v, hv, hr, hn⟩) (by omega)
end
end
section
/-! The rank of a set of planes, and what it says of the corners that lie in them -/
section
def rk_is (Q : Nat → gm_V) (S : Nat → Prop) (r : Nat) : Prop :=
  (r = 0 ∧ ∀ i, ¬ S i) ∨
  (r = 1 ∧ ∃ p, S p ∧ ∀ i, S i → gm_cr (Q p) (Q i) = (0, 0, 0, 0)) ∨
  (r = 2 ∧ ∃ p q, S p ∧ S q ∧ gm_cr (Q p) (Q q) ≠ (0, 0, 0, 0) ∧ ∀ i, S i → gm_dt (Q p) (Q q) (Q i) = 0) ∨
  (r = 3 ∧ ∃ p q s, S p ∧ S q ∧ S s ∧ gm_dt (Q p) (Q q) (Q s) ≠ 0)
def rk_nz (a : gm_V) : Prop := ¬ (a.1 = 0 ∧ a.2.1 = 0 ∧ a.2.2.1 = 0)

theorem rk_cr0 {s a b : gm_V} (hs : rk_nz s) (ha : gm_cr s a = (0, 0, 0, 0)) (hb : gm_cr s b = (0, 0, 0, 0)) : gm_cr a b = (0, 0, 0, 0) := by
  obtain ⟨s1, s2, s3, s4⟩ := s
  obtain ⟨a1, a2, a3, a4⟩ := a
  obtain ⟨b1, b2, b3, b4⟩ := b
  simp only [gm_cr, Prod.mk.injEq] at *
  obtain ⟨x1, x2, x3, _⟩ := ha
  obtain ⟨y1, y2, y3, _⟩ := hb
  have hq : s1 * s1 + s2 * s2 + s3 * s3 ≠ 0 := fun h => hs (gm_sq _ _ _ h)
  have k1 : (s1 * s1 + s2 * s2 + s3 * s3) * (a2 * b3 - a3 * b2) = 0 := by grind
  have k2 : (s1 * s1 + s2 * s2 + s3 * s3) * (a3 * b1 - a1 * b3) = 0 := by grind
  have k3 : (s1 * s1 + s2 * s2 + s3 * s3) * (a1 * b2 - a2 * b1) = 0 := by grind
  exact ⟨(Int.mul_eq_zero.mp k1).resolve_left hq, (Int.mul_eq_zero.mp k2).resolve_left hq, (Int.mul_eq_zero.mp k3).resolve_left hq, by trivial⟩
theorem rk_dt_cr {a b c : gm_V} (h : gm_dt a b c ≠ 0) : gm_cr a b ≠ (0, 0, 0, 0) := by
  intro e
  apply h
  rw [← gm_dtc, ← gm_dtc, ← gm_ev_cr, e]
  simp [gm_ev]
theorem rk_cr_anti {a b : gm_V} (h : gm_cr a b = (0, 0, 0, 0)) : gm_cr b a = (0, 0, 0, 0) := by
  simp only [gm_cr, Prod.mk.injEq] at *
  obtain ⟨h1, h2, h3, _⟩ := h
  refine ⟨?_, ?_, ?_, by trivial⟩ <;> grind

variable {Q : Nat → gm_V} {S : Nat → Prop} {r : Nat}
/-- a triple that meets in a point: rank 3 -/
theorem rk_3 (hz : ∀ i, S i → rk_nz (Q i)) (h : rk_is Q S r) {i j k : Nat} (hi : S i) (hj : S j) (hk : S k) (hd : gm_dt (Q i) (Q j) (Q k) ≠ 0) : r = 3 := by
  rcases h with ⟨_, h⟩ | ⟨_, p, hp, h⟩ | ⟨_, p, q, hp, hq, hc, h⟩ | ⟨e, _⟩
  · exact absurd hi (h i)
  · exact absurd (gm_dt0 (hz p hp) (h i hi) (h j hj)) hd
  · exfalso
    apply hc
    refine gm_cramer hd rfl ?_ ?_ ?_
    · rw [gm_ev_cr, ← gm_dtc]; exact h i hi
    · rw [gm_ev_cr, ← gm_dtc]; exact h j hj
    · rw [gm_ev_cr, ← gm_dtc]; exact h k hk
  · exact e
/-- planes that cross: rank 2 or more -/
theorem rk_ge2 (h : rk_is Q S r) (h2 : 2 ≤ r) : ∃ i j, S i ∧ S j ∧ gm_cr (Q i) (Q j) ≠ (0, 0, 0, 0) := by
  rcases h with ⟨e, _⟩ | ⟨e, _⟩ | ⟨_, p, q, hp, hq, hc, _⟩ | ⟨_, p, q, s, hp, hq, hs, hd⟩
  · omega
  · omega
  · exact ⟨p, q, hp, hq, hc⟩
  · exact ⟨p, q, hp, hq, rk_dt_cr hd⟩
theorem rk_lt2 (hz : ∀ i, S i → rk_nz (Q i)) (h : rk_is Q S r) (h2 : r < 2) : ∀ i j, S i → S j → gm_cr (Q i) (Q j) = (0, 0, 0, 0) := by
  rcases h with ⟨_, h⟩ | ⟨_, p, hp, h⟩ | ⟨e, _⟩ | ⟨e, _⟩
  · intro i j hi; exact absurd hi (h i)
  · intro i j hi hj
    exact rk_cr0 (hz p hp) (h i hi) (h j hj)
  · omega
  · omega
theorem rk_is3 (h : rk_is Q S r) (h3 : r = 3) : ∃ i j k, S i ∧ S j ∧ S k ∧ gm_dt (Q i) (Q j) (Q k) ≠ 0 := by
  rcases h with ⟨e, _⟩ | ⟨e, _⟩ | ⟨e, _⟩ | ⟨_, p, q, s, hp, hq, hs, hd⟩
  · omega
  · omega
  · omega
  · exact ⟨p, q, s, hp, hq, hs, hd⟩
theorem rk_le3 (h : rk_is Q S r) : r ≤ 3 := by
  rcases h with ⟨e, _⟩ | ⟨e, _⟩ | ⟨e, _⟩ | ⟨e, _⟩ <;> omega
theorem rk_0 (h : rk_is Q S r) : r = 0 ↔ ∀ i, ¬ S i := by
  rcases h with ⟨e, h⟩ | ⟨e, p, hp, h⟩ | ⟨e, p, q, hp, hq, hc, h⟩ | ⟨e, p, q, s, hp, hq, hs, hd⟩
  · exact ⟨fun _ => h, fun _ => e⟩
  · exact ⟨fun e' => by omega, fun h' => absurd hp (h' p)⟩
  · exact ⟨fun e' => by omega, fun h' => absurd hp (h' p)⟩
  · exact ⟨fun e' => by omega, fun h' => absurd hp (h' p)⟩

variable {ac : Nat → Prop} {n : Nat}
/-- one corner: rank 3 -/
theorem rk_c1 {v : gm_V} (hz : ∀ i, ac i → rk_nz (Q i)) (hv : gm_Vx Q ac v) (h : rk_is Q (fun i => ac i ∧ gm_ev (Q i) v = 0) r) : r = 3 := by
  obtain ⟨_, _, i, j, k, hi, hj, hk, hd, ei, ej, ek⟩ := hv
  exact rk_3 (fun i hi => hz i hi.1) h (i := i) (j := j) (k := k) ⟨hi, ei⟩ ⟨hj, ej⟩ ⟨hk, ek⟩ hd
/-- two corners: rank 2 iff no third is in all planes of both -/
theorem rk_c2 {v u : gm_V} (hac : ∀ i, ac i → i < n) (hB : gm_Bd Q ac) (hz : ∀ i, ac i → rk_nz (Q i)) (hv : gm_Vx Q ac v) (hu : gm_Vx Q ac u) (hne : ¬ gm_pr v u)
    (h : rk_is Q (fun i => ac i ∧ gm_ev (Q i) v = 0 ∧ gm_ev (Q i) u = 0) r) :
    r = 2 ↔ ¬ ∃ t, gm_Vx Q ac t ∧ ¬ gm_pr t v ∧ ¬ gm_pr t u ∧ ∀ i, ac i → gm_ev (Q i) v = 0 → gm_ev (Q i) u = 0 → gm_ev (Q i) t = 0 := by
  constructor
  · intro e hx
    obtain ⟨t, ht, n1, n2, hT⟩ := hx
    obtain ⟨i, j, hi, hj, hc⟩ := rk_ge2 h (by omega)
    exact gm_col hc ht hv hu ⟨hT i hi.1 hi.2.1 hi.2.2, hT j hj.1 hj.2.1 hj.2.2⟩ ⟨hi.2.1, hj.2.1⟩ ⟨hi.2.2, hj.2.2⟩ n1 hne (fun g => n2 (gm_pr_symm g))
  · intro hx
    have h3 := rk_le3 h
    by_cases e : r = 2
    · exact e
    · exfalso
      by_cases e3 : r = 3
      · obtain ⟨i, j, k, hi, hj, hk, hd⟩ := rk_is3 h e3
        exact hne (gm_uniq hd hi.2.1 hj.2.1 hk.2.1 hi.2.2 hj.2.2 hk.2.2)
      · have hc := rk_lt2 (fun i hi => hz i hi.1) h (by omega)
        obtain ⟨t, ht, hT, n1, n2⟩ := gm_third hac hB hv hu hne (fun i j hi hj a b d e => hc i j ⟨hi, a, b⟩ ⟨hj, d, e⟩)
        exact hx ⟨t, ht, n1, n2, hT⟩
/-- three corners: rank 0 or 1 -/
theorem rk_c3 {v u t : gm_V} (hv : gm_Vx Q ac v) (hu : gm_Vx Q ac u) (ht : gm_Vx Q ac t) (n1 : ¬ gm_pr v u) (n2 : ¬ gm_pr u t) (n3 : ¬ gm_pr t v)
    (hS : ∀ i, S i → gm_ev (Q i) v = 0 ∧ gm_ev (Q i) u = 0 ∧ gm_ev (Q i) t = 0) (h : rk_is Q S r) : r < 2 := by
  rcases Nat.lt_or_ge r 2 with g | g
  · exact g
  · exfalso
    obtain ⟨i, j, hi, hj, hc⟩ := rk_ge2 h g
    exact gm_col hc hv hu ht ⟨(hS i hi).1, (hS j hj).1⟩ ⟨(hS i hi).2.1, (hS j hj).2.1⟩ ⟨(hS i hi).2.2, (hS j hj).2.2⟩ n1 n2 n3
end
end
section
/-! The component's small methods: indices, divisor, excess, meeting point, order -/
section
theorem nu_0 : (0 : Int32) = nu_I 0 := by decide
theorem nu_ge0 {a : Int} (h1 : -2147483648 ≤ a) (h2 : a ≤ 2147483647) : (0 : Int32) ≤ nu_I a ↔ 0 ≤ a := by
  rw [nu_0]; exact nu_le (by omega) (by omega) h1 h2
theorem nu_le0 {a : Int} (h1 : -2147483648 ≤ a) (h2 : a ≤ 2147483647) : nu_I a ≤ (0 : Int32) ↔ a ≤ 0 := by
  rw [nu_0]; exact nu_le h1 h2 (by omega) (by omega)
theorem nu_eq0 {a : Int} (h1 : -2147483648 ≤ a) (h2 : a ≤ 2147483647) : nu_I a = (0 : Int32) ↔ a = 0 := by
  rw [nu_0]; exact nu_eq h1 h2 (by omega) (by omega)
theorem nu_L0 : (0 : Int64) = nu_L 0 := by decide
theorem nu_Lge0 {a : Int} (h1 : -9223372036854775808 ≤ a) (h2 : a ≤ 9223372036854775807) : (0 : Int64) ≤ nu_L a ↔ 0 ≤ a := by
  rw [nu_L0]; exact nu_Lle (by omega) (by omega) h1 h2
theorem nu_Lle0 {a : Int} (h1 : -9223372036854775808 ≤ a) (h2 : a ≤ 9223372036854775807) : nu_L a ≤ (0 : Int64) ↔ a ≤ 0 := by
  rw [nu_L0]; exact nu_Lle h1 h2 (by omega) (by omega)
theorem nu_Leq0 {a : Int} (h1 : -9223372036854775808 ≤ a) (h2 : a ≤ 9223372036854775807) : nu_L a = (0 : Int64) ↔ a = 0 := by
  rw [nu_L0]; exact nu_Leq h1 h2 (by omega) (by omega)
theorem nu_Llt0 {a : Int} (h1 : -9223372036854775808 ≤ a) (h2 : a ≤ 9223372036854775807) : nu_L a < (0 : Int64) ↔ a < 0 := by
  rw [nu_L0]; exact nu_Llt h1 h2 (by omega) (by omega)

theorem xw_gcd35 {post : Int32 → Prop} {a : Int} (h1 : a.natAbs < 2 ^ 31) (h : post (nu_I a.natAbs)) : wX_commonDivisor_35 post (nu_I a) := by
  by_cases c : 0 ≤ a
  · have e : ((a.natAbs : Nat) : Int) = a := by omega
    rw [e] at h
    exact br_t ((nu_ge0 (by omega) (by omega)).mpr c) h
  · have e : ((a.natAbs : Nat) : Int) = -a := by omega
    rw [e, ← nu_neg] at h
    exact br_f (fun k => c ((nu_ge0 (by omega) (by omega)).mp k)) h
theorem xw_gcd0 {post : Int32 → Prop} {a : Int} {s n : Nat} (h1 : a.natAbs < 2 ^ 31) (hs : s < 1000) (h : post (nu_I a.natAbs)) :
    wX_commonDivisor_7 post (n + 1) (nu_I a) (nu_I 0) (nI s) :=
  br_f (nI_ge (b := 1000) hs (by decide)) (br_t nu_0.symm (xw_gcd35 h1 h))
theorem xw_gcd1 {post : Int32 → Prop} {a b : Int} {s n : Nat} (h1 : a.natAbs < 2 ^ 31) (h2 : b.natAbs < 2 ^ 31) (hb : b ≠ 0) (hs : s < 1000)
    (h : wX_commonDivisor_7 post n (nu_I b) (nu_I (a.tmod b)) (nI (s + 1))) : wX_commonDivisor_7 post (n + 1) (nu_I a) (nu_I b) (nI s) := by
  have hz : ¬ nu_I b = 0 := fun k => hb ((nu_eq0 (by omega) (by omega)).mp k)
  exact br_f (nI_ge (b := 1000) hs (by decide)) (br_f hz ⟨hz, nm_r (nu_rem (by omega) (by omega) (by omega) (by omega)) (nm_r (nI_1 s) h)⟩)
theorem nu_eu {A B : Nat} (hB : 0 < B) : Nat.gcd B (A % B) = Nat.gcd A B := by
  rw [Nat.gcd_comm A B, Nat.gcd_rec B A, Nat.gcd_comm]
theorem nu_half {B R : Nat} (hR : 0 < R) (h : R < B) : 2 * (B % R) < B := by
  have h1 := Nat.mod_lt B hR
  have h2 := Nat.div_add_mod B R
  have h3 : 1 ≤ B / R := Nat.div_pos (Nat.le_of_lt h) hR
  have h4 : R * 1 ≤ R * (B / R) := Nat.mul_le_mul_left R h3
  omega
theorem xw_gcd7 {post : Int32 → Prop} : ∀ (t : Nat) (a b : Int) (s n : Nat), a.natAbs < 2 ^ 31 → b.natAbs < 2 ^ t → t ≤ 31 → s + 2 * t < 1000 → 2 * t < n →
    post (nu_I (Nat.gcd a.natAbs b.natAbs)) → wX_commonDivisor_7 post n (nu_I a) (nu_I b) (nI s) := by
  intro t
  induction t with
  | zero =>
    intro a b s n h1 h2 _ hs hn h
    obtain ⟨n', rfl⟩ : ∃ n', n = n' + 1 := ⟨n - 1, by omega⟩
    have e : b = 0 := by simp at h2; omega
    subst e
    rw [Int.natAbs_zero, Nat.gcd_zero_right] at h
    exact xw_gcd0 h1 (by omega) h
  | succ t ih =>
    intro a b s n h1 h2 ht hs hn h
    obtain ⟨n', rfl⟩ : ∃ n', n = n' + 1 := ⟨n - 1, by omega⟩
    have hp : 2 ^ (t + 1) ≤ 2 ^ 31 := Nat.pow_le_pow_right (by decide) ht
    by_cases e : b = 0
    · subst e
      rw [Int.natAbs_zero, Nat.gcd_zero_right] at h
      exact xw_gcd0 h1 (by omega) h
    · have hb : 0 < b.natAbs := by omega
      refine xw_gcd1 h1 (by omega) e (by omega) ?_
      have hr : (a.tmod b).natAbs = a.natAbs % b.natAbs := Int.natAbs_tmod a b
      have hl : a.natAbs % b.natAbs < b.natAbs := Nat.mod_lt _ hb
      by_cases e2 : a.tmod b = 0
      · obtain ⟨n'', rfl⟩ : ∃ n'', n' = n'' + 1 := ⟨n' - 1, by omega⟩
        rw [e2]
        refine xw_gcd0 (by omega) (by omega) ?_
        rw [e2] at hr
        have : Nat.gcd a.natAbs b.natAbs = b.natAbs := by
          rw [← nu_eu hb, ← hr]; simp
        rw [← this]; exact h
      · obtain ⟨n'', rfl⟩ : ∃ n'', n' = n'' + 1 := ⟨n' - 1, by omega⟩
        refine xw_gcd1 (by omega) (by omega) e2 (by omega) ?_
        have hR : 0 < (a.tmod b).natAbs := by omega
        have hr2 : (b.tmod (a.tmod b)).natAbs = b.natAbs % (a.tmod b).natAbs := Int.natAbs_tmod _ _
        have hh := nu_half (B := b.natAbs) hR (by omega)
        refine ih _ _ _ _ (by omega) (by rw [hr2]; rw [Nat.pow_succ] at h2; omega) (by omega) (by omega) (by omega) ?_
        rw [hr2, nu_eu hR, hr, nu_eu hb]
        exact h
theorem xw_gcd {post : Int32 → Prop} {a b : Int} (h1 : a.natAbs < 2 ^ 31) (h2 : b.natAbs < 2 ^ 31) (h : post (nu_I (Nat.gcd a.natAbs b.natAbs))) :
    wpX_commonDivisor post (nu_I a) (nu_I b) :=
  ⟨63, xw_gcd7 31 a b 0 63 h1 h2 (by omega) (by omega) (by omega) h⟩

theorem xw_4 (k : Nat) : (4 : Int32) * nI k = nI (4 * k) := pk_mul 4 k
theorem xw_a1 (k : Nat) : nI k + (1 : Int32) = nI (k + 1) := nI_add k 1
theorem xw_a2 (k : Nat) : nI k + (2 : Int32) = nI (k + 2) := nI_add k 2
theorem xw_a3 (k : Nat) : nI k + (3 : Int32) = nI (k + 3) := nI_add k 3
/-- cells of four: what an array holds, as points -/
def xw_C (a : Nat → Int32) (c : Nat) (f : Nat → gm_V) : Prop :=
  ∀ k, k < c → a (4 * k) = nu_I (f k).1 ∧ a (4 * k + 1) = nu_I (f k).2.1 ∧ a (4 * k + 2) = nu_I (f k).2.2.1 ∧ a (4 * k + 3) = nu_I (f k).2.2.2

variable {fc ff : Int32} {pl co tt st : Nat → Int32} {Q f : Nat → gm_V} {n c : Nat}
theorem xw_excess {post : Int32 → Prop} (hP : xw_C pl n Q) (hC : xw_C co c f) {p k : Nat} (hp : p < n) (hn : n ≤ 16) (hk : k < c) (hc : c ≤ 33)
    (h : post (nu_I (gm_ev (Q p) (f k)))) : wpX_excess post (fc, ff, pl, co, tt, st) (nI p) (nI k) := by
  obtain ⟨p0, p1, p2, p3⟩ := hP p hp
  obtain ⟨k0, k1, k2, k3⟩ := hC k hk
  refine nm_r (xw_4 p) (nm_r (xw_4 k) ?_)
  rw [xw_a1, xw_a1, xw_a2, xw_a2, xw_a3, xw_a3]
  refine ⟨vp_in_nI (by omega) (by omega), vp_in_nI (by omega) (by omega), vp_in_nI (by omega) (by omega), vp_in_nI (by omega) (by omega),
    vp_in_nI (by omega) (by omega), vp_in_nI (by omega) (by omega), vp_in_nI (by omega) (by omega), vp_in_nI (by omega) (by omega), ?_⟩
  rw [nI_clamp (by omega), nI_clamp (by omega), nI_clamp (by omega), nI_clamp (by omega), nI_clamp (by omega), nI_clamp (by omega), nI_clamp (by omega), nI_clamp (by omega),
    p0, p1, p2, p3, k0, k1, k2, k3]
  simp only [nu_mul, nu_add, nu_sub]
  exact h
theorem gm_ev_bd {a p : gm_V} (ha : gm_ok a) (hp : gm_bd p) : -92160 ≤ gm_ev a p ∧ gm_ev a p ≤ 92160 := by
  obtain ⟨a1, a2, a3, a4⟩ := ha
  obtain ⟨p1, p2, p3, p4⟩ := hp
  have q1 := nu_pb (A := 4) (B := 5760) a1.1 a1.2 p1.1 p1.2
  have q2 := nu_pb (A := 4) (B := 5760) a2.1 a2.2 p2.1 p2.2
  have q3 := nu_pb (A := 4) (B := 5760) a3.1 a3.2 p3.1 p3.2
  have q4 := nu_pb (A := 60) (B := 384) a4.1 a4.2 p4.1 p4.2
  simp only [gm_ev]
  omega
theorem xw_det {post : Int32 → Prop} {i j k a b d : Nat} (hi : i < 16) (hj : j < 16) (hk : k < 16) (ha : a < 4) (hb : b < 4) (hd : d < 4)
    (h : post (pl (4 * i + a) * (pl (4 * j + b) * pl (4 * k + d) - pl (4 * j + d) * pl (4 * k + b))
      - pl (4 * i + b) * (pl (4 * j + a) * pl (4 * k + d) - pl (4 * j + d) * pl (4 * k + a))
      + pl (4 * i + d) * (pl (4 * j + a) * pl (4 * k + b) - pl (4 * j + b) * pl (4 * k + a)))) :
    wpX_determinant post (fc, ff, pl, co, tt, st) (nI i) (nI j) (nI k) (nI a) (nI b) (nI d) := by
  refine nm_r (xw_4 i) (nm_r (xw_4 j) (nm_r (xw_4 k) ?_))
  simp only [nI_add]
  have v : ∀ x : Nat, x < 64 → vp_in (nI x) 64 := fun x hx => vp_in_nI hx (by omega)
  refine ⟨v _ (by omega), v _ (by omega), v _ (by omega), v _ (by omega), v _ (by omega), v _ (by omega), v _ (by omega), v _ (by omega),
    v _ (by omega), v _ (by omega), v _ (by omega), v _ (by omega), v _ (by omega), v _ (by omega), v _ (by omega), ?_⟩
  rw [nI_clamp (n := 4 * i + a) (by omega), nI_clamp (n := 4 * i + b) (by omega), nI_clamp (n := 4 * i + d) (by omega),
    nI_clamp (n := 4 * j + a) (by omega), nI_clamp (n := 4 * j + b) (by omega), nI_clamp (n := 4 * j + d) (by omega),
    nI_clamp (n := 4 * k + a) (by omega), nI_clamp (n := 4 * k + b) (by omega), nI_clamp (n := 4 * k + d) (by omega)]
  exact h
end
end
section
/-! The component: the meeting point of three planes, inside or not -/
section
def gm_c (p : gm_V) (a : Nat) : Int := match a with
  | 0 => p.1 | 1 => p.2.1 | 2 => p.2.2.1 | _ => p.2.2.2
theorem xw_Ca {a : Nat → Int32} {c : Nat} {f : Nat → gm_V} (h : xw_C a c f) {k i : Nat} (hk : k < c) (hi : i < 4) : a (4 * k + i) = nu_I (gm_c (f k) i) := by
  obtain ⟨h0, h1, h2, h3⟩ := h k hk
  match i, hi with
  | 0, _ => exact h0
  | 1, _ => exact h1
  | 2, _ => exact h2
  | 3, _ => exact h3
theorem xw_C_le {a : Nat → Int32} {c c' : Nat} {f : Nat → gm_V} (h : xw_C a c f) (hc : c' ≤ c) : xw_C a c' f := fun k hk => h k (by omega)
theorem xw_C_cg {a : Nat → Int32} {c : Nat} {f g : Nat → gm_V} (h : xw_C a c f) (e : ∀ k, k < c → f k = g k) : xw_C a c g := fun k hk => e k hk ▸ h k hk
theorem ls_ins_lo {f : Nat → gm_V} {p : gm_V} {k j : Nat} (h : j < k) : ls_ins f p k j = f j := if_pos h
theorem ls_ins_eq {f : Nat → gm_V} {p : gm_V} {k : Nat} : ls_ins f p k k = p := by unfold ls_ins; rw [if_neg (by omega), if_pos rfl]
theorem xw_put {a : Nat → Int32} {c : Nat} {f : Nat → gm_V} {p : gm_V} (h : xw_C a c f) :
    xw_C (upd (upd (upd (upd a (4 * c) (nu_I p.1)) (4 * c + 1) (nu_I p.2.1)) (4 * c + 2) (nu_I p.2.2.1)) (4 * c + 3) (nu_I p.2.2.2)) (c + 1) (ls_ins f p c) := by
  intro k hk
  by_cases e : k = c
  · subst e
    rw [ls_ins_eq]
    refine ⟨?_, ?_, ?_, ?_⟩
    · rw [pk_un (by omega), pk_un (by omega), pk_un (by omega), pk_us]
    · rw [pk_un (by omega), pk_un (by omega), pk_us]
    · rw [pk_un (by omega), pk_us]
    · rw [pk_us]
  · rw [ls_ins_lo (by omega)]
    obtain ⟨h0, h1, h2, h3⟩ := h k (by omega)
    refine ⟨?_, ?_, ?_, ?_⟩
    · rw [pk_un (by omega), pk_un (by omega), pk_un (by omega), pk_un (by omega)]; exact h0
    · rw [pk_un (by omega), pk_un (by omega), pk_un (by omega), pk_un (by omega)]; exact h1
    · rw [pk_un (by omega), pk_un (by omega), pk_un (by omega), pk_un (by omega)]; exact h2
    · rw [pk_un (by omega), pk_un (by omega), pk_un (by omega), pk_un (by omega)]; exact h3

variable {fc ff : Int32} {pl co tt st : Nat → Int32} {Q f : Nat → gm_V} {n c : Nat}
theorem xw_dW {post : Int32 → Prop} (hP : xw_C pl n Q) (hn : n ≤ 16) {i j k : Nat} (hi : i < n) (hj : j < n) (hk : k < n)
    (h : post (nu_I (gm_cp (Q i) (Q j) (Q k)).2.2.2)) : wpX_determinant post (fc, ff, pl, co, tt, st) (nI i) (nI j) (nI k) 0 1 2 := by
  refine xw_det (a := 0) (b := 1) (d := 2) (by omega) (by omega) (by omega) (by omega) (by omega) (by omega) ?_
  simp only [xw_Ca hP hi (show 0 < 4 by omega), xw_Ca hP hi (show 1 < 4 by omega), xw_Ca hP hi (show 2 < 4 by omega), xw_Ca hP hj (show 0 < 4 by omega), xw_Ca hP hj (show 1 < 4 by omega),
    xw_Ca hP hj (show 2 < 4 by omega), xw_Ca hP hk (show 0 < 4 by omega), xw_Ca hP hk (show 1 < 4 by omega), xw_Ca hP hk (show 2 < 4 by omega), nu_mul, nu_add, nu_sub]
  exact h
theorem xw_dX {post : Int32 → Prop} (hP : xw_C pl n Q) (hn : n ≤ 16) {i j k : Nat} (hi : i < n) (hj : j < n) (hk : k < n)
    (h : post (nu_I (gm_cp (Q i) (Q j) (Q k)).1)) : wpX_determinant post (fc, ff, pl, co, tt, st) (nI i) (nI j) (nI k) 3 1 2 := by
  refine xw_det (a := 3) (b := 1) (d := 2) (by omega) (by omega) (by omega) (by omega) (by omega) (by omega) ?_
  simp only [xw_Ca hP hi (show 3 < 4 by omega), xw_Ca hP hi (show 1 < 4 by omega), xw_Ca hP hi (show 2 < 4 by omega), xw_Ca hP hj (show 3 < 4 by omega), xw_Ca hP hj (show 1 < 4 by omega),
    xw_Ca hP hj (show 2 < 4 by omega), xw_Ca hP hk (show 3 < 4 by omega), xw_Ca hP hk (show 1 < 4 by omega), xw_Ca hP hk (show 2 < 4 by omega), nu_mul, nu_add, nu_sub]
  exact h
theorem xw_dY {post : Int32 → Prop} (hP : xw_C pl n Q) (hn : n ≤ 16) {i j k : Nat} (hi : i < n) (hj : j < n) (hk : k < n)
    (h : post (nu_I (gm_cp (Q i) (Q j) (Q k)).2.1)) : wpX_determinant post (fc, ff, pl, co, tt, st) (nI i) (nI j) (nI k) 0 3 2 := by
  refine xw_det (a := 0) (b := 3) (d := 2) (by omega) (by omega) (by omega) (by omega) (by omega) (by omega) ?_
  simp only [xw_Ca hP hi (show 0 < 4 by omega), xw_Ca hP hi (show 3 < 4 by omega), xw_Ca hP hi (show 2 < 4 by omega), xw_Ca hP hj (show 0 < 4 by omega), xw_Ca hP hj (show 3 < 4 by omega),
    xw_Ca hP hj (show 2 < 4 by omega), xw_Ca hP hk (show 0 < 4 by omega), xw_Ca hP hk (show 3 < 4 by omega), xw_Ca hP hk (show 2 < 4 by omega), nu_mul, nu_add, nu_sub]
  exact h
theorem xw_dZ {post : Int32 → Prop} (hP : xw_C pl n Q) (hn : n ≤ 16) {i j k : Nat} (hi : i < n) (hj : j < n) (hk : k < n)
    (h : post (nu_I (gm_cp (Q i) (Q j) (Q k)).2.2.1)) : wpX_determinant post (fc, ff, pl, co, tt, st) (nI i) (nI j) (nI k) 0 1 3 := by
  refine xw_det (a := 0) (b := 1) (d := 3) (by omega) (by omega) (by omega) (by omega) (by omega) (by omega) ?_
  simp only [xw_Ca hP hi (show 0 < 4 by omega), xw_Ca hP hi (show 1 < 4 by omega), xw_Ca hP hi (show 3 < 4 by omega), xw_Ca hP hj (show 0 < 4 by omega), xw_Ca hP hj (show 1 < 4 by omega),
    xw_Ca hP hj (show 3 < 4 by omega), xw_Ca hP hk (show 0 < 4 by omega), xw_Ca hP hk (show 1 < 4 by omega), xw_Ca hP hk (show 3 < 4 by omega), nu_mul, nu_add, nu_sub]
  exact h

theorem gm_g4_le {p : gm_V} (h : p.2.2.2 ≠ 0) : gm_g4 p ≤ p.2.2.2.natAbs := by
  have c : gm_g4 p ∣ Nat.gcd (Nat.gcd p.2.2.2.natAbs p.1.natAbs) p.2.1.natAbs := Nat.gcd_dvd_left _ _
  have c2 : gm_g4 p ∣ Nat.gcd p.2.2.2.natAbs p.1.natAbs := Nat.dvd_trans c (Nat.gcd_dvd_left _ _)
  have d1 : gm_g4 p ∣ p.2.2.2.natAbs := Nat.dvd_trans c2 (Nat.gcd_dvd_left _ _)
  exact Nat.le_of_dvd (by omega) d1

theorem xw_92 {post : Int32 → SX → Prop} {p : gm_V} (hb : gm_bd p) (hw : p.2.2.2 ≠ 0) (hC : xw_C co c f) (hc : c ≤ 32)
    (h : ∀ co', xw_C co' (c + 1) (ls_ins f (gm_red p) c) → post 1 (fc, nI c, pl, co', tt, st)) :
    wX_meetInPoint_92 post (nu_I p.2.2.2) (nu_I p.1) (nu_I p.2.1) (nu_I p.2.2.1) (nu_I (gm_q p)) fc (nI c) pl co tt st := by
  obtain ⟨b1, b2, b3, b4⟩ := hb
  have hq := gm_q_nz hw
  have hg := gm_g4_le hw
  have hq1 : -384 ≤ gm_q p ∧ gm_q p ≤ 384 := by
    unfold gm_q
    split <;> omega
  have hz : ¬ nu_I (gm_q p) = 0 := fun k => hq ((nu_eq0 (by omega) (by omega)).mp k)
  have v : ∀ x : Nat, x < 132 → vp_in (nI x) 132 := fun x hx => vp_in_nI hx (by omega)
  refine nm_r (xw_4 c) ?_
  rw [xw_a1, xw_a2, xw_a3, nI_clamp (by omega), nI_clamp (by omega), nI_clamp (by omega), nI_clamp (by omega)]
  refine ⟨hz, v _ (by omega), nm_e ⟨hz, v _ (by omega), nm_e ⟨hz, v _ (by omega), nm_e ⟨hz, v _ (by omega), nm_e ?_⟩⟩⟩⟩
  rw [nu_div (by omega) (by omega) (by omega) (by omega), nu_div (by omega) (by omega) (by omega) (by omega),
    nu_div (by omega) (by omega) (by omega) (by omega), nu_div (by omega) (by omega) (by omega) (by omega)]
  exact h _ (xw_put (p := gm_red p) hC)

theorem xw_meet {post : Int32 → SX → Prop} (hP : xw_C pl n Q) (hn : n ≤ 16) (hok : ∀ i, i < n → gm_ok (Q i)) (hC : xw_C co c f) (hc : c ≤ 32)
    {i j k : Nat} (hi : i < n) (hj : j < n) (hk : k < n)
    (h0 : gm_dt (Q i) (Q j) (Q k) = 0 → post 0 (fc, nI c, pl, co, tt, st))
    (h1 : gm_dt (Q i) (Q j) (Q k) ≠ 0 → ∀ co', xw_C co' (c + 1) (ls_ins f (gm_pt (Q i) (Q j) (Q k)) c) → post 1 (fc, nI c, pl, co', tt, st)) :
    wpX_meetInPoint post (fc, nI c, pl, co, tt, st) (nI i) (nI j) (nI k) := by
  have hb := gm_cp_bd (hok i hi) (hok j hj) (hok k hk)
  have hb' := hb
  obtain ⟨b1, b2, b3, b4⟩ := hb'
  unfold wpX_meetInPoint
  refine xw_dW hP hn hi hj hk ?_
  refine br_c (fun e => h0 ((nu_eq0 (a := (gm_cp (Q i) (Q j) (Q k)).2.2.2) (by omega) (by omega)).mp e)) (fun e => ?_)
  have hw : (gm_cp (Q i) (Q j) (Q k)).2.2.2 ≠ 0 := fun z => e ((nu_eq0 (by omega) (by omega)).mpr z)
  refine xw_dX hP hn hi hj hk ?_
  refine xw_dY hP hn hi hj hk ?_
  refine xw_dZ hP hn hi hj hk ?_
  have l1 : Nat.gcd (gm_cp (Q i) (Q j) (Q k)).2.2.2.natAbs (gm_cp (Q i) (Q j) (Q k)).1.natAbs ≤ (gm_cp (Q i) (Q j) (Q k)).2.2.2.natAbs :=
    Nat.le_of_dvd (by omega) (Nat.gcd_dvd_left _ _)
  have l0 : 0 < Nat.gcd (gm_cp (Q i) (Q j) (Q k)).2.2.2.natAbs (gm_cp (Q i) (Q j) (Q k)).1.natAbs := Nat.gcd_pos_of_pos_left _ (by omega)
  have l2 : Nat.gcd (Nat.gcd (gm_cp (Q i) (Q j) (Q k)).2.2.2.natAbs (gm_cp (Q i) (Q j) (Q k)).1.natAbs) (gm_cp (Q i) (Q j) (Q k)).2.1.natAbs
      ≤ Nat.gcd (gm_cp (Q i) (Q j) (Q k)).2.2.2.natAbs (gm_cp (Q i) (Q j) (Q k)).1.natAbs :=
    Nat.le_of_dvd l0 (Nat.gcd_dvd_left _ _)
  refine xw_gcd (by omega) (by omega) ?_
  refine xw_gcd (by omega) (by omega) ?_
  rw [Int.natAbs_natCast]
  refine xw_gcd (by omega) (by omega) ?_
  rw [Int.natAbs_natCast]
  have hq : gm_q (gm_cp (Q i) (Q j) (Q k)) = if (gm_cp (Q i) (Q j) (Q k)).2.2.2 < 0 then -(gm_g4 (gm_cp (Q i) (Q j) (Q k)) : Int) else (gm_g4 (gm_cp (Q i) (Q j) (Q k)) : Int) := rfl
  refine br_c (fun g => ?_) (fun g => ?_)
  · have g' := (nu_ge0 (by omega) (by omega)).mp g
    rw [if_neg (by omega)] at hq
    have := xw_92 (post := post) (fc := fc) (pl := pl) (tt := tt) (st := st) hb hw hC hc (h1 hw)
    rw [hq] at this
    exact this
  · have g' : (gm_cp (Q i) (Q j) (Q k)).2.2.2 < 0 := by
      rcases Int.lt_or_le (gm_cp (Q i) (Q j) (Q k)).2.2.2 0 with z | z
      · exact z
      · exact absurd ((nu_ge0 (by omega) (by omega)).mpr z) g
    rw [if_pos g'] at hq
    have := xw_92 (post := post) (fc := fc) (pl := pl) (tt := tt) (st := st) hb hw hC hc (h1 hw)
    rw [hq] at this
    exact nm_r (nu_neg _) this

/-- the left-out plane, as a number of the machine -/
def xw_L (n : Nat) (lf : Int32) (L : Nat → Prop) : Prop := ∀ p, p < n → (nI p = lf ↔ L p)
theorem xw_inside2 {post : Int32 → Prop} {lf : Int32} {L : Nat → Prop} (hL : xw_L n lf L) (hP : xw_C pl n Q) (hn : n ≤ 16) (hok : ∀ i, i < n → gm_ok (Q i))
    (hC : xw_C co (c + 1) f) (hc : c ≤ 32) (hb : gm_bd (f c))
    (h1 : gm_In Q (fun p => p < n ∧ ¬ L p) (f c) → post 1) (h0 : ¬ gm_In Q (fun p => p < n ∧ ¬ L p) (f c) → post 0) :
    ∀ (d p : Nat), p + d = n → (∀ q, q < p → ¬ L q → gm_ev (Q q) (f c) ≤ 0) → wX_isPointInside_2 post (nI n) lf fc (nI c) pl co tt st (d + 1) (nI p) := by
  intro d
  induction d with
  | zero =>
    intro p hp hI
    have : p = n := by omega
    subst this
    exact br_t (nI_le (Nat.le_refl _) (by omega)) (h1 fun i hi => hI i hi.1 hi.2)
  | succ d ih =>
    intro p hp hI
    refine br_f (nI_ge (by omega) (by omega)) (br_c (fun e => nm_r (nI_1 p) ?_) (fun e => ?_))
    · have lp := (hL p (by omega)).mp e
      refine ih (p + 1) (by omega) (fun q hq hl => ?_)
      by_cases z : q = p
      · subst z; exact absurd lp hl
      · exact hI q (by omega) hl
    · have lp : ¬ L p := fun z => e ((hL p (by omega)).mpr z)
      have eb := gm_ev_bd (hok p (by omega)) hb
      refine xw_excess hP hC (by omega) hn (by omega) (by omega) ?_
      refine br_c (fun g => nm_r (nI_1 p) ?_) (fun g => h0 fun hin => ?_)
      · have g' := (nu_le0 (by omega) (by omega)).mp g
        refine ih (p + 1) (by omega) (fun q hq hl => ?_)
        by_cases z : q = p
        · subst z; exact g'
        · exact hI q (by omega) hl
      · exact g ((nu_le0 (by omega) (by omega)).mpr (hin p ⟨by omega, lp⟩))
theorem xw_inside {post : Int32 → Prop} {lf : Int32} {L : Nat → Prop} (hL : xw_L n lf L) (hP : xw_C pl n Q) (hn : n ≤ 16) (hok : ∀ i, i < n → gm_ok (Q i))
    (hC : xw_C co (c + 1) f) (hc : c ≤ 32) (hb : gm_bd (f c))
    (h1 : gm_In Q (fun p => p < n ∧ ¬ L p) (f c) → post 1) (h0 : ¬ gm_In Q (fun p => p < n ∧ ¬ L p) (f c) → post 0) :
    wpX_isPointInside post (fc, nI c, pl, co, tt, st) (nI n) lf :=
  ⟨n + 1, xw_inside2 hL hP hn hok hC hc hb h1 h0 n 0 (by omega) (fun q hq => by omega)⟩
end
end
section
/-! The component: order, swap, and the point put in its place -/
section
variable {fc ff : Int32} {pl co tt st : Nat → Int32} {Q f : Nat → gm_V} {n c : Nat}
theorem gm_c_bd {p : gm_V} (h : gm_bd p) {a : Nat} (ha : a < 3) : -5760 ≤ gm_c p a ∧ gm_c p a ≤ 5760 := by
  obtain ⟨h1, h2, h3, _⟩ := h
  match a, ha with
  | 0, _ => exact h1
  | 1, _ => exact h2
  | 2, _ => exact h3
theorem gm_o_bd {p q : gm_V} (hp : gm_bd p) (hq : gm_bd q) {a : Nat} (ha : a < 3) :
    -4423680 ≤ gm_c p a * q.2.2.2 - gm_c q a * p.2.2.2 ∧ gm_c p a * q.2.2.2 - gm_c q a * p.2.2.2 ≤ 4423680 := by
  have p1 := gm_c_bd hp ha
  have q1 := gm_c_bd hq ha
  have k1 := nu_pb (A := 5760) (B := 384) p1.1 p1.2 hq.2.2.2.1 hq.2.2.2.2
  have k2 := nu_pb (A := 5760) (B := 384) q1.1 q1.2 hp.2.2.2.1 hp.2.2.2.2
  omega
theorem xw_along {post : Int32 → Prop} (hC : xw_C co c f) (hc : c ≤ 33) {k l a : Nat} (hk : k < c) (hl : l < c) (ha : a < 3)
    (h : post (nu_I (gm_c (f k) a * (f l).2.2.2 - gm_c (f l) a * (f k).2.2.2))) : wpX_orderAlong post (fc, ff, pl, co, tt, st) (nI k) (nI l) (nI a) := by
  have v : ∀ x : Nat, x < 132 → vp_in (nI x) 132 := fun x hx => vp_in_nI hx (by omega)
  refine nm_r (xw_4 k) (nm_r (xw_4 l) ?_)
  rw [nI_add, nI_add, xw_a3, xw_a3]
  refine ⟨v _ (by omega), v _ (by omega), v _ (by omega), v _ (by omega), ?_⟩
  rw [nI_clamp (by omega), nI_clamp (by omega), nI_clamp (by omega), nI_clamp (by omega), (hC l hl).2.2.2, (hC k hk).2.2.2, xw_Ca hC hk (show a < 4 by omega), xw_Ca hC hl (show a < 4 by omega),
    nu_mul, nu_mul, nu_sub]
  exact h
theorem xw_order {post : Int32 → Prop} (hC : xw_C co c f) (hc : c ≤ 33) {k l : Nat} (hk : k < c) (hl : l < c) (bk : gm_bd (f k)) (bl : gm_bd (f l))
    (h : ∀ d : Int, -4423680 ≤ d → d ≤ 4423680 → (d < 0 ↔ gm_lt (f k) (f l)) → (0 < d ↔ gm_lt (f l) (f k)) → post (nu_I d)) :
    wpX_order post (fc, ff, pl, co, tt, st) (nI k) (nI l) := by
  have o0 := gm_o_bd bk bl (a := 0) (by omega)
  have o1 := gm_o_bd bk bl (a := 1) (by omega)
  have o2 := gm_o_bd bk bl (a := 2) (by omega)
  have G1 : gm_lt (f k) (f l) ↔ (gm_c (f k) 0 * (f l).2.2.2 - gm_c (f l) 0 * (f k).2.2.2 < 0 ∨ (gm_c (f k) 0 * (f l).2.2.2 - gm_c (f l) 0 * (f k).2.2.2 = 0 ∧
      (gm_c (f k) 1 * (f l).2.2.2 - gm_c (f l) 1 * (f k).2.2.2 < 0 ∨ (gm_c (f k) 1 * (f l).2.2.2 - gm_c (f l) 1 * (f k).2.2.2 = 0 ∧
        gm_c (f k) 2 * (f l).2.2.2 - gm_c (f l) 2 * (f k).2.2.2 < 0)))) := by
    simp only [gm_lt, gm_c]; omega
  have G2 : gm_lt (f l) (f k) ↔ (0 < gm_c (f k) 0 * (f l).2.2.2 - gm_c (f l) 0 * (f k).2.2.2 ∨ (gm_c (f k) 0 * (f l).2.2.2 - gm_c (f l) 0 * (f k).2.2.2 = 0 ∧
      (0 < gm_c (f k) 1 * (f l).2.2.2 - gm_c (f l) 1 * (f k).2.2.2 ∨ (gm_c (f k) 1 * (f l).2.2.2 - gm_c (f l) 1 * (f k).2.2.2 = 0 ∧
        0 < gm_c (f k) 2 * (f l).2.2.2 - gm_c (f l) 2 * (f k).2.2.2)))) := by
    simp only [gm_lt, gm_c]; omega
  refine ⟨4, br_f (by decide) (br_t rfl ?_)⟩
  refine xw_along hC hc hk hl (a := 0) (by omega) (nm_r (nI_1 0) ?_)
  generalize gm_c (f k) 0 * (f l).2.2.2 - gm_c (f l) 0 * (f k).2.2.2 = d0 at *
  refine br_f (by decide) (br_c (fun e0 => ?_) (fun e0 => ?_))
  · have z0 := (nu_eq0 (by omega) (by omega)).mp e0
    refine xw_along hC hc hk hl (a := 1) (by omega) (nm_r (nI_1 1) ?_)
    generalize gm_c (f k) 1 * (f l).2.2.2 - gm_c (f l) 1 * (f k).2.2.2 = d1 at *
    refine br_f (by decide) (br_c (fun e1 => ?_) (fun e1 => ?_))
    · have z1 := (nu_eq0 (by omega) (by omega)).mp e1
      refine xw_along hC hc hk hl (a := 2) (by omega) (nm_r (nI_1 2) ?_)
      generalize gm_c (f k) 2 * (f l).2.2.2 - gm_c (f l) 2 * (f k).2.2.2 = d2 at *
      refine br_t (by decide) (h d2 (by omega) (by omega) ?_ ?_)
      · rw [G1]; omega
      · rw [G2]; omega
    · have z1 : d1 ≠ 0 := fun z => e1 ((nu_eq0 (by omega) (by omega)).mpr z)
      refine h d1 (by omega) (by omega) ?_ ?_
      · rw [G1]; omega
      · rw [G2]; omega
  · have z0 : d0 ≠ 0 := fun z => e0 ((nu_eq0 (by omega) (by omega)).mpr z)
    refine h d0 (by omega) (by omega) ?_ ?_
    · rw [G1]; omega
    · rw [G2]; omega

/-- two places exchanged -/
def ls_sw (f : Nat → gm_V) (k l : Nat) : Nat → gm_V := fun j => if j = k then f l else if j = l then f k else f j
def xw_si (co : Nat → Int32) (k l t : Nat) (a : Nat → Int32) : Prop :=
  ∀ i, a i = if 4 * k ≤ i ∧ i < 4 * k + t then co (4 * l + (i - 4 * k)) else if 4 * l ≤ i ∧ i < 4 * l + t then co (4 * k + (i - 4 * l)) else co i
theorem xw_si_s {co a : Nat → Int32} {k l t : Nat} (hkl : k ≠ l) (ht : t < 4) (h : xw_si co k l t a) :
    xw_si co k l (t + 1) (upd (upd a (4 * k + t) (a (4 * l + t))) (4 * l + t) (a (4 * k + t))) := by
  intro i
  have hk := h (4 * k + t)
  have hl := h (4 * l + t)
  rw [if_neg (by omega), if_neg (by omega)] at hk
  rw [if_neg (by omega), if_neg (by omega)] at hl
  by_cases e1 : i = 4 * l + t
  · subst e1
    rw [pk_us, hk, if_neg (by omega), if_pos (by omega)]
    congr 1; omega
  · rw [pk_un e1]
    by_cases e2 : i = 4 * k + t
    · subst e2
      rw [pk_us, hl, if_pos (by omega)]
      congr 1; omega
    · rw [pk_un e2, h i]
      by_cases c1 : 4 * k ≤ i ∧ i < 4 * k + t
      · rw [if_pos c1, if_pos (by omega)]
      · rw [if_neg c1, if_neg (by omega : ¬ (4 * k ≤ i ∧ i < 4 * k + (t + 1)))]
        by_cases c2 : 4 * l ≤ i ∧ i < 4 * l + t
        · rw [if_pos c2, if_pos (by omega)]
        · rw [if_neg c2, if_neg (by omega : ¬ (4 * l ≤ i ∧ i < 4 * l + (t + 1)))]
theorem xw_si_C {co a : Nat → Int32} {k l : Nat} (hk : k < c) (hl : l < c) (h : xw_si co k l 4 a) (hC : xw_C co c f) : xw_C a c (ls_sw f k l) := by
  intro j hj
  have hv : ∀ i, i < 4 → a (4 * j + i) = if j = k then co (4 * l + i) else if j = l then co (4 * k + i) else co (4 * j + i) := by
    intro i hi
    rw [h (4 * j + i)]
    by_cases e1 : j = k
    · subst e1
      rw [if_pos (by omega), if_pos rfl]
      congr 1; omega
    · rw [if_neg (by omega), if_neg e1]
      by_cases e2 : j = l
      · subst e2
        rw [if_pos (by omega), if_pos rfl]
        congr 1; omega
      · rw [if_neg (by omega), if_neg e2]
  have h0 := hv 0 (by omega)
  have h1 := hv 1 (by omega)
  have h2 := hv 2 (by omega)
  have h3 := hv 3 (by omega)
  unfold ls_sw
  by_cases e1 : j = k
  · rw [if_pos e1] at h0 h1 h2 h3 ⊢
    obtain ⟨g0, g1, g2, g3⟩ := hC l hl
    exact ⟨h0.trans g0, h1.trans g1, h2.trans g2, h3.trans g3⟩
  · rw [if_neg e1] at h0 h1 h2 h3 ⊢
    by_cases e2 : j = l
    · rw [if_pos e2] at h0 h1 h2 h3 ⊢
      obtain ⟨g0, g1, g2, g3⟩ := hC k hk
      exact ⟨h0.trans g0, h1.trans g1, h2.trans g2, h3.trans g3⟩
    · rw [if_neg e2] at h0 h1 h2 h3 ⊢
      obtain ⟨g0, g1, g2, g3⟩ := hC j hj
      exact ⟨h0.trans g0, h1.trans g1, h2.trans g2, h3.trans g3⟩
theorem xw_swap2 {post : SX → Prop} {k l : Nat} (hk : k < 33) (hl : l < 33) (hkl : k ≠ l) (h : ∀ a, xw_si co k l 4 a → post (fc, ff, pl, a, tt, st)) :
    ∀ (d t : Nat) (a : Nat → Int32), t + d = 4 → xw_si co k l t a → wX_swapCorners_2 post (nI k) (nI l) fc ff (d + 1) (nI t) pl a tt st := by
  intro d
  induction d with
  | zero =>
    intro t a ht hI
    have : t = 4 := by omega
    subst this
    exact br_t (by decide) (h a hI)
  | succ d ih =>
    intro t a ht hI
    have v : ∀ x : Nat, x < 132 → vp_in (nI x) 132 := fun x hx => vp_in_nI hx (by omega)
    refine br_f (nI_ge (b := 4) (by omega) (by decide)) ?_
    rw [xw_4, xw_4, nI_add, nI_add, nI_clamp (by omega), nI_clamp (by omega)]
    exact ⟨v _ (by omega), nm_e ⟨v _ (by omega), v _ (by omega), nm_e ⟨v _ (by omega), nm_e (nm_r (nI_1 t) (ih (t + 1) _ (by omega) (xw_si_s hkl (by omega) hI)))⟩⟩⟩
theorem xw_swap {post : SX → Prop} {k l : Nat} (hC : xw_C co c f) (hc : c ≤ 33) (hk : k < c) (hl : l < c) (hkl : k ≠ l)
    (h : ∀ co', xw_C co' c (ls_sw f k l) → post (fc, ff, pl, co', tt, st)) : wpX_swapCorners post (fc, ff, pl, co, tt, st) (nI k) (nI l) :=
  ⟨5, xw_swap2 (by omega) (by omega) hkl (fun a ha => h a (xw_si_C hk hl ha hC)) 4 0 co (by omega) (fun i => by rw [if_neg (by omega), if_neg (by omega)])⟩

theorem ls_sw_ins {f : Nat → gm_V} {p : gm_V} {k : Nat} (j : Nat) : ls_sw (ls_ins f p (k + 1)) k (k + 1) j = ls_ins f p k j := by
  unfold ls_sw
  by_cases e1 : j = k
  · subst e1
    rw [if_pos rfl, ls_ins_eq, ls_ins_eq]
  · rw [if_neg e1]
    by_cases e2 : j = k + 1
    · subst e2
      rw [if_pos rfl, ls_ins_lo (by omega)]
      unfold ls_ins
      rw [if_neg (by omega), if_neg (by omega)]
      congr 1
    · rw [if_neg e2]
      unfold ls_ins
      by_cases e3 : j < k
      · rw [if_pos (by omega), if_pos e3]
      · rw [if_neg (by omega), if_neg (by omega), if_neg e3, if_neg e1]

variable {p : gm_V}
theorem xw_keep44 {post : SX → Prop} (hc : c ≤ 32) (hb : ∀ i, i < c → gm_bd (f i)) (bp : gm_bd p) (hw : ∀ i, i < c → 0 < (f i).2.2.2) (pw : 0 < p.2.2.2)
    (hs : ∀ i j, i < j → j < c → gm_lt (f i) (f j)) (hn : ∀ i, i < c → ¬ gm_pr (f i) p)
    (h : ∀ (k : Nat) (co' : Nat → Int32), k ≤ c → (∀ i, i < k → gm_lt (f i) p) → (∀ i, k ≤ i → i < c → gm_lt p (f i)) → xw_C co' (c + 1) (ls_ins f p k) →
      post (fc, nI (c + 1), pl, co', tt, st)) :
    ∀ (k : Nat) (co : Nat → Int32), k ≤ c → (∀ i, k ≤ i → i < c → gm_lt p (f i)) → xw_C co (c + 1) (ls_ins f p k) → wX_keepPoint_44 post (k + 1) (nI k) fc (nI c) pl co tt st := by
  intro k
  induction k with
  | zero =>
    intro co hk hi hC
    exact br_t (nI_le (a := 0) (b := 0) (by omega) (by omega)) (nm_r (nI_1 c) (h 0 co hk (fun i hi => by omega) hi hC))
  | succ k ih =>
    intro co hk hi hC
    have e1 : nI (k + 1) - 1 = nI k := nI_pred k
    refine br_f (nI_nle (by omega) (by omega)) ?_
    rw [e1]
    have f1 : ls_ins f p (k + 1) k = f k := ls_ins_lo (by omega)
    have f2 : ls_ins f p (k + 1) (k + 1) = p := ls_ins_eq
    refine xw_order hC (by omega) (by omega) (by omega) (by rw [f1]; exact hb k (by omega)) (by rw [f2]; exact bp) (fun d d1 d2 hlt hgt => ?_)
    rw [f1, f2] at hlt hgt
    refine br_c (fun g => ?_) (fun g => ?_)
    · have g' := (nu_le0 (by omega) (by omega)).mp g
      have l1 : gm_lt (f k) p := by
        apply Classical.byContradiction
        intro hl
        exact hn k (by omega) (gm_tri hl (fun hg => by have := hgt.mpr hg; omega))
      refine nm_r (nI_1 c) (h (k + 1) co hk (fun i hik => ?_) hi hC)
      by_cases e : i = k
      · subst e; exact l1
      · exact gm_lt_trans (hw i (by omega)) (hw k (by omega)) pw (hs i k (by omega) (by omega)) l1
    · have g' : 0 < d := by
        rcases Int.lt_or_le 0 d with z | z
        · exact z
        · exact absurd ((nu_le0 (by omega) (by omega)).mpr z) g
      refine xw_swap hC (by omega) (by omega) (by omega) (by omega) (fun co' hC' => ?_)
      refine nm_r (pk_m1 k) (ih co' (by omega) (fun i h1 h2 => ?_) (xw_C_cg hC' (fun j _ => ls_sw_ins j)))
      by_cases e : i = k
      · subst e; exact hgt.mp g'
      · exact hi i (by omega) h2
theorem xw_keep12 {post : SX → Prop} (hC : xw_C co (c + 1) (ls_ins f p c)) (hc : c < 32) (hb : ∀ i, i < c → gm_bd (f i)) (bp : gm_bd p) (hw : ∀ i, i < c → 0 < (f i).2.2.2) (pw : 0 < p.2.2.2)
    (hs : ∀ i j, i < j → j < c → gm_lt (f i) (f j))
    (h0 : (∃ i, i < c ∧ gm_pr (f i) p) → post (fc, nI c, pl, co, tt, st))
    (h : ∀ (k : Nat) (co' : Nat → Int32), k ≤ c → (∀ i, i < k → gm_lt (f i) p) → (∀ i, k ≤ i → i < c → gm_lt p (f i)) → xw_C co' (c + 1) (ls_ins f p k) →
      post (fc, nI (c + 1), pl, co', tt, st)) :
    ∀ (d k : Nat), k + d = c → (∀ i, i < k → ¬ gm_pr (f i) p) → wX_keepPoint_12 post fc (nI c) pl co tt st (d + 1) (nI k) := by
  intro d
  induction d with
  | zero =>
    intro k hk hn
    have : k = c := by omega
    subst this
    exact br_t (nI_le (Nat.le_refl _) (by omega)) ⟨k + 1, xw_keep44 (by omega) hb bp hw pw hs hn h k co (by omega) (fun i h1 h2 => by omega) hC⟩
  | succ d ih =>
    intro k hk hn
    have f1 : ls_ins f p c k = f k := ls_ins_lo (by omega)
    have f2 : ls_ins f p c c = p := ls_ins_eq
    refine br_f (nI_ge (by omega) (by omega)) ?_
    refine xw_order hC (by omega) (by omega) (by omega) (by rw [f1]; exact hb k (by omega)) (by rw [f2]; exact bp) (fun d d1 d2 hlt hgt => ?_)
    rw [f1, f2] at hlt hgt
    refine br_c (fun g => ?_) (fun g => ?_)
    · have g' := (nu_eq0 (by omega) (by omega)).mp g
      exact h0 ⟨k, by omega, gm_tri (fun z => by have := hlt.mpr z; omega) (fun z => by have := hgt.mpr z; omega)⟩
    · have g' : d ≠ 0 := fun z => g ((nu_eq0 (by omega) (by omega)).mpr z)
      refine nm_r (nI_1 k) (ih (k + 1) (by omega) (fun i hi => ?_))
      by_cases e : i = k
      · subst e
        intro hp
        have : gm_lt (f i) p ∨ gm_lt p (f i) := by
          rcases Int.lt_or_gt_of_ne g' with z | z
          · exact .inl (hlt.mp z)
          · exact .inr (hgt.mp z)
        rcases this with z | z
        · exact gm_lt_npr z hp
        · exact gm_lt_npr z (gm_pr_symm hp)
      · exact hn i (by omega)
theorem xw_keep {post : SX → Prop} (hC : xw_C co (c + 1) (ls_ins f p c)) (hc : c ≤ 32) (hb : ∀ i, i < c → gm_bd (f i)) (bp : gm_bd p) (hw : ∀ i, i < c → 0 < (f i).2.2.2) (pw : 0 < p.2.2.2)
    (hs : ∀ i j, i < j → j < c → gm_lt (f i) (f j))
    (hfull : c = 32 → post (fc, nI c, pl, co, tt, st))
    (h0 : (∃ i, i < c ∧ gm_pr (f i) p) → post (fc, nI c, pl, co, tt, st))
    (h : c < 32 → ∀ (k : Nat) (co' : Nat → Int32), k ≤ c → (∀ i, i < k → gm_lt (f i) p) → (∀ i, k ≤ i → i < c → gm_lt p (f i)) → xw_C co' (c + 1) (ls_ins f p k) →
      post (fc, nI (c + 1), pl, co', tt, st)) : wpX_keepPoint post (fc, nI c, pl, co, tt, st) := by
  by_cases e : c < 32
  · exact br_t (nI_lt (b := 32) e (by decide)) ⟨c + 1, xw_keep12 hC e hb bp hw pw hs h0 (h e) c 0 (by omega) (fun i hi => by omega)⟩
  · exact br_f (nI_nlt (b := 32) (by omega) (by omega)) (hfull (by omega))
end
end
section
/-! The component finds the list of the corners -/
section
theorem nx_or2 (a b : Nat) : nI a ||| nI b = nI (a ||| b) := by
  apply Int32.toBitVec_inj.1
  show BitVec.ofNat 32 a ||| BitVec.ofNat 32 b = BitVec.ofNat 32 (a ||| b)
  apply BitVec.eq_of_getLsbD_eq
  intro i hi
  simp [hi]
theorem nx_bitp {p : Nat} (hp : p < 31) : (1 : Int32) <<< (nI p &&& 31) = nI (2 ^ p) := by
  have := pk_shlN (n := 1) (nI p &&& 31) p (s_l p (by omega)) (by
    have : 2 ^ p < 2 ^ 31 := Nat.pow_lt_pow_right (by decide) hp
    omega)
  rw [Nat.one_mul] at this
  exact this

variable {fc ff : Int32} {pl co tt st : Nat → Int32} {Q f : Nat → gm_V} {n c : Nat}
/-- the masks of the planes through each corner -/
def xw_T (t : Nat → Int32) (c n : Nat) (Q f : Nat → gm_V) : Prop := ∀ k, k < c → ∃ m, t k = nI m ∧ nu_ms m n (fun p => gm_ev (Q p) (f k) = 0)

theorem xw_thr5 {post : Int32 → Prop} (hP : xw_C pl n Q) (hn : n ≤ 16) (hok : ∀ i, i < n → gm_ok (Q i)) (hC : xw_C co c f) (hc : c ≤ 33) {k : Nat} (hk : k < c) (hb : gm_bd (f k))
    (h : ∀ m, nu_ms m n (fun p => gm_ev (Q p) (f k) = 0) → post (nI m)) :
    ∀ (d p m : Nat), p + d = n → nu_ms m p (fun p => gm_ev (Q p) (f k) = 0) → wX_planesThrough_5 post (nI k) (nI n) fc ff pl co tt st (d + 1) (nI m) (nI p) := by
  intro d
  induction d with
  | zero =>
    intro p m hp hm
    have : p = n := by omega
    subst this
    exact br_t (nI_le (Nat.le_refl _) (by omega)) (h m hm)
  | succ d ih =>
    intro p m hp hm
    have eb := gm_ev_bd (hok p (by omega)) hb
    refine br_f (nI_ge (by omega) (by omega)) (xw_excess hP hC (by omega) hn hk hc ?_)
    refine br_c (fun g => ?_) (fun g => nm_r (nI_1 p) (ih (p + 1) m (by omega) (nu_ms_f hm (fun z => g ((nu_eq0 (by omega) (by omega)).mpr z)))))
    have g' := (nu_eq0 (by omega) (by omega)).mp g
    refine nm_r ?_ (nm_r (nI_1 p) (ih (p + 1) (m ||| 2 ^ p) (by omega) (nu_ms_t hm g')))
    rw [nx_bitp (by omega), nx_or2]
theorem xw_thr {post : Int32 → Prop} (hP : xw_C pl n Q) (hn : n ≤ 16) (hok : ∀ i, i < n → gm_ok (Q i)) (hC : xw_C co c f) (hc : c ≤ 33) {k : Nat} (hk : k < c) (hb : gm_bd (f k))
    (h : ∀ m, nu_ms m n (fun p => gm_ev (Q p) (f k) = 0) → post (nI m)) : wpX_planesThrough post (fc, ff, pl, co, tt, st) (nI k) (nI n) :=
  ⟨n + 1, xw_thr5 hP hn hok hC hc hk hb h n 0 0 (by omega) (nu_ms_0 _)⟩
theorem xw_f109 {post : SX → Prop} (hP : xw_C pl n Q) (hn : n ≤ 16) (hok : ∀ i, i < n → gm_ok (Q i)) (hC : xw_C co c f) (hc : c ≤ 32) (hb : ∀ k, k < c → gm_bd (f k))
    (h : ∀ tt', xw_T tt' c n Q f → post (fc, nI c, pl, co, tt', st)) :
    ∀ (d k : Nat) (tt : Nat → Int32), k + d = c → xw_T tt k n Q f → wX_findCorners_109 post (nI n) fc (nI c) (d + 1) (nI k) pl co tt st := by
  intro d
  induction d with
  | zero =>
    intro k tt hk hT
    have : k = c := by omega
    subst this
    exact br_t (nI_le (Nat.le_refl _) (by omega)) (h tt hT)
  | succ d ih =>
    intro k tt hk hT
    refine br_f (nI_ge (by omega) (by omega)) (xw_thr hP hn hok hC (by omega) (by omega) (hb k (by omega)) (fun m hm => ?_))
    rw [nI_clamp (by omega)]
    refine ⟨vp_in_nI (by omega) (by omega), nm_e (nm_r (nI_1 k) (ih (k + 1) _ (by omega) (fun j hj => ?_)))⟩
    by_cases e : j = k
    · subst e; exact ⟨m, pk_us, hm⟩
    · rw [pk_un e]; exact hT j (by omega)

variable {lf : Int32} {L : Nat → Prop}
/-- what is found when the triples before (i, j, k) are done -/
def xw_FI (Q : Nat → gm_V) (n : Nat) (L : Nat → Prop) (i j k c : Nat) (f : Nat → gm_V) : Prop :=
  (∀ a, a < c → gm_Vt Q (fun p => p < n ∧ ¬ L p) (f a)) ∧ (∀ a b, a < b → b < c → gm_lt (f a) (f b)) ∧
  ∀ a b d, a < b → b < d → d < n → (a < i ∨ (a = i ∧ (b < j ∨ (b = j ∧ d < k)))) → ¬ L a → ¬ L b → ¬ L d → gm_dt (Q a) (Q b) (Q d) ≠ 0 →
    gm_In Q (fun p => p < n ∧ ¬ L p) (gm_pt (Q a) (Q b) (Q d)) → ∃ m, m < c ∧ f m = gm_pt (Q a) (Q b) (Q d)
theorem xw_FI_c {i j k : Nat} (hn : n ≤ 16) (h : xw_FI Q n L i j k c f) : c ≤ 32 := by
  have := gm_bound (Q := Q) (ac := fun p => p < n ∧ ¬ L p) (n := n) (fun i hi => hi.1) c f (fun a ha => (h.1 a ha).1) (fun a b hab hb => gm_lt_npr (h.2.1 a b hab hb))
  omega
/-- a new corner can't come when 32 are there -/
theorem xw_FI_33 {i j k : Nat} {p : gm_V} (hn : n ≤ 16) (h : xw_FI Q n L i j k 32 f) (hp : gm_Vt Q (fun p => p < n ∧ ¬ L p) p) : ∃ a, a < 32 ∧ f a = p := by
  apply Classical.byContradiction
  intro hx
  have hnp : ∀ a, a < 32 → ¬ gm_pr (f a) p := fun a ha z => hx ⟨a, ha, gm_pr_eq z (h.1 a ha).1.1 hp.1.1 (h.1 a ha).2 hp.2⟩
  have := gm_bound (Q := Q) (ac := fun p => p < n ∧ ¬ L p) (n := n) (fun i hi => hi.1) 33 (fun a => if a < 32 then f a else p) (fun a ha => by
    by_cases e : a < 32
    · rw [if_pos e]; exact (h.1 a e).1
    · rw [if_neg e]; exact hp.1) (fun a b hab hb => by
    rw [if_pos (by omega)]
    by_cases e : b < 32
    · rw [if_pos e]; exact gm_lt_npr (h.2.1 a b hab e)
    · rw [if_neg e]; exact hnp a (by omega))
  omega
theorem xw_FI_skip {i j k : Nat} (h : xw_FI Q n L i j k c f)
    (hx : ¬ L i → ¬ L j → ¬ L k → gm_dt (Q i) (Q j) (Q k) ≠ 0 → gm_In Q (fun p => p < n ∧ ¬ L p) (gm_pt (Q i) (Q j) (Q k)) → ∃ m, m < c ∧ f m = gm_pt (Q i) (Q j) (Q k)) :
    xw_FI Q n L i j (k + 1) c f := by
  refine ⟨h.1, h.2.1, fun a b d h1 h2 h3 h4 la lb ld hd hin => ?_⟩
  by_cases e : a = i ∧ b = j ∧ d = k
  · obtain ⟨e1, e2, e3⟩ := e
    subst e1 e2 e3
    exact hx la lb ld hd hin
  · exact h.2.2 a b d h1 h2 h3 (by omega) la lb ld hd hin
theorem xw_FI_new {i j k q : Nat} {p : gm_V} (h : xw_FI Q n L i j k c f) (hp : gm_Vt Q (fun p => p < n ∧ ¬ L p) p) (he : p = gm_pt (Q i) (Q j) (Q k)) (hq : q ≤ c)
    (h1 : ∀ a, a < q → gm_lt (f a) p) (h2 : ∀ a, q ≤ a → a < c → gm_lt p (f a)) : xw_FI Q n L i j (k + 1) (c + 1) (ls_ins f p q) := by
  refine ⟨fun a ha => ?_, ls_ins_sorted h.2.1 hq h1 h2, fun a b d g1 g2 g3 g4 la lb ld hd hin => ?_⟩
  · rcases (ls_ins_mem (f := f) (p := p) hq (ls_ins f p q a)).mp ⟨a, ha, rfl⟩ with e | ⟨m, hm, e⟩
    · rw [e]; exact hp
    · rw [← e]; exact h.1 m hm
  · apply (ls_ins_mem hq _).mpr
    by_cases e : a = i ∧ b = j ∧ d = k
    · obtain ⟨e1, e2, e3⟩ := e
      subst e1 e2 e3
      exact .inl he.symm
    · exact .inr (h.2.2 a b d g1 g2 g3 (by omega) la lb ld hd hin)

theorem xw_f57 {post : SX → Prop} {J7 J17 J29 : Int32 → Int32 → Int32 → (Nat → Int32) → (Nat → Int32) → (Nat → Int32) → (Nat → Int32) → Prop}
    (hL : xw_L n lf L) (hP : xw_C pl n Q) (hn : n ≤ 16) (hok : ∀ i, i < n → gm_ok (Q i)) {i j k : Nat} (hi : i < n) (hj : j < n) (hk : k < n)
    (li : ¬ L i) (lj : ¬ L j) (lk : ¬ L k) (hC : xw_C co c f) (hF : xw_FI Q n L i j k c f)
    (h : ∀ c f co, xw_C co c f → xw_FI Q n L i j (k + 1) c f → J29 (nI (k + 1)) fc (nI c) pl co tt st) :
    wX_findCorners_57 post J7 J17 J29 (nI n) lf (nI i) (nI j) (nI k) 1 fc (nI c) pl co tt st := by
  have hc := xw_FI_c hn hF
  refine br_f (by decide) (xw_meet hP hn hok hC hc hi hj hk (fun h0 => ?_) (fun h1 co' hC' => ?_))
  · exact br_t rfl (nm_r (nI_1 k) (h c f co hC (xw_FI_skip hF (fun _ _ _ hd => absurd h0 hd))))
  · have hbd : ∀ a, a < c → gm_bd (f a) := fun a ha => gm_vt_bd (fun i hi => hok i hi.1) (hF.1 a ha)
    have hbp : gm_bd (gm_pt (Q i) (Q j) (Q k)) := gm_red_bd (gm_cp_bd (hok i hi) (hok j hj) (hok k hk))
    have hC0 : xw_C co' c f := fun a ha => by
      have := hC' a (by omega)
      rwa [ls_ins_lo ha] at this
    have fe : ls_ins f (gm_pt (Q i) (Q j) (Q k)) c c = gm_pt (Q i) (Q j) (Q k) := ls_ins_eq
    refine br_f (by decide) (xw_inside hL hP hn hok hC' hc (by rw [fe]; exact hbp) (fun hin => ?_) (fun hin => ?_))
    · rw [fe] at hin
      have hvt := gm_pt_vt (Q := Q) (ac := fun p => p < n ∧ ¬ L p) ⟨hi, li⟩ ⟨hj, lj⟩ ⟨hk, lk⟩ h1 hin
      refine br_f (by decide) (xw_keep hC' hc hbd hbp (fun a ha => (hF.1 a ha).1.1) hvt.1.1 hF.2.1 (fun e => ?_) (fun hx => ?_) (fun e q co2 hq q1 q2 hC2 => ?_))
      · subst e
        exact nm_r (nI_1 k) (h 32 f co' hC0 (xw_FI_skip hF (fun _ _ _ _ _ => xw_FI_33 hn hF hvt)))
      · obtain ⟨m, hm, hpr⟩ := hx
        exact nm_r (nI_1 k) (h c f co' hC0 (xw_FI_skip hF (fun _ _ _ _ _ => ⟨m, hm, gm_pr_eq hpr (hF.1 m hm).1.1 hvt.1.1 (hF.1 m hm).2 hvt.2⟩)))
      · exact nm_r (nI_1 k) (h (c + 1) _ co2 hC2 (xw_FI_new hF hvt rfl hq q1 q2))
    · rw [fe] at hin
      exact br_t rfl (nm_r (nI_1 k) (h c f co' hC0 (xw_FI_skip hF (fun _ _ _ _ z => absurd z hin))))
theorem xw_f56 {post : SX → Prop} {J7 J17 J29 : Int32 → Int32 → Int32 → (Nat → Int32) → (Nat → Int32) → (Nat → Int32) → (Nat → Int32) → Prop}
    {i j k : Nat} (hl : L i ∨ L j ∨ L k) (hC : xw_C co c f) (hF : xw_FI Q n L i j k c f)
    (h : ∀ c f co, xw_C co c f → xw_FI Q n L i j (k + 1) c f → J29 (nI (k + 1)) fc (nI c) pl co tt st) :
    wX_findCorners_56 post J7 J17 J29 (nI n) lf (nI i) (nI j) (nI k) fc (nI c) pl co tt st := by
  unfold wX_findCorners_56
  refine br_t rfl (nm_r (nI_1 k) (h c f co hC (xw_FI_skip hF (fun a b d => ?_))))
  rcases hl with z | z | z
  · exact absurd z a
  · exact absurd z b
  · exact absurd z d
theorem xw_f29 {post : SX → Prop} {J7 J17 : Int32 → Int32 → Int32 → (Nat → Int32) → (Nat → Int32) → (Nat → Int32) → (Nat → Int32) → Prop}
    (hL : xw_L n lf L) (hP : xw_C pl n Q) (hn : n ≤ 16) (hok : ∀ i, i < n → gm_ok (Q i)) {i j : Nat} (hi : i < n) (hj : j < n)
    (h : ∀ c f co, xw_C co c f → xw_FI Q n L i j n c f → J17 (nI (j + 1)) fc (nI c) pl co tt st) :
    ∀ (d k c : Nat) (f : Nat → gm_V) (co : Nat → Int32), k + d = n → xw_C co c f → xw_FI Q n L i j k c f →
      wX_findCorners_29 post J7 J17 (nI n) lf (nI i) (nI j) (d + 1) (nI k) fc (nI c) pl co tt st := by
  intro d
  induction d with
  | zero =>
    intro k c f co hk hC hF
    have : k = n := by omega
    subst this
    exact br_t (nI_le (Nat.le_refl _) (by omega)) (nm_r (nI_1 j) (h c f co hC hF))
  | succ d ih =>
    intro k c f co hk hC hF
    have nx : ∀ c f co, xw_C co c f → xw_FI Q n L i j (k + 1) c f → wX_findCorners_29 post J7 J17 (nI n) lf (nI i) (nI j) (d + 1) (nI (k + 1)) fc (nI c) pl co tt st :=
      fun c f co a b => ih (k + 1) c f co (by omega) a b
    refine br_f (nI_ge (by omega) (by omega)) (br_c (fun e => xw_f56 (.inl ((hL i hi).mp e)) hC hF nx) (fun e1 => br_c (fun e => xw_f56 (.inr (.inl ((hL j hj).mp e))) hC hF nx)
      (fun e2 => br_c (fun e => xw_f56 (.inr (.inr ((hL k (by omega)).mp e))) hC hF nx) (fun e3 => ?_))))
    exact xw_f57 hL hP hn hok hi hj (by omega) (fun z => e1 ((hL i hi).mpr z)) (fun z => e2 ((hL j hj).mpr z)) (fun z => e3 ((hL k (by omega)).mpr z)) hC hF nx
theorem xw_f17 {post : SX → Prop} {J7 : Int32 → Int32 → Int32 → (Nat → Int32) → (Nat → Int32) → (Nat → Int32) → (Nat → Int32) → Prop}
    (hL : xw_L n lf L) (hP : xw_C pl n Q) (hn : n ≤ 16) (hok : ∀ i, i < n → gm_ok (Q i)) {i : Nat} (hi : i < n)
    (h : ∀ c f co, xw_C co c f → xw_FI Q n L i n 0 c f → J7 (nI (i + 1)) fc (nI c) pl co tt st) :
    ∀ (d j c : Nat) (f : Nat → gm_V) (co : Nat → Int32), j + d = n → xw_C co c f → xw_FI Q n L i j 0 c f →
      wX_findCorners_17 post J7 (nI n) lf (nI i) (d + 1) (nI j) fc (nI c) pl co tt st := by
  intro d
  induction d with
  | zero =>
    intro j c f co hj hC hF
    have : j = n := by omega
    subst this
    exact br_t (nI_le (Nat.le_refl _) (by omega)) (nm_r (nI_1 i) (h c f co hC hF))
  | succ d ih =>
    intro j c f co hj hC hF
    refine br_f (nI_ge (by omega) (by omega)) (nm_r (nI_1 j) ⟨n - (j + 1) + 1, xw_f29 hL hP hn hok hi (by omega) (fun c f co hC hF => ?_) (n - (j + 1)) (j + 1) c f co (by omega) hC ?_⟩)
    · refine ih (j + 1) c f co (by omega) hC ⟨hF.1, hF.2.1, fun a b d h1 h2 h3 h4 => hF.2.2 a b d h1 h2 h3 (by omega)⟩
    · exact ⟨hF.1, hF.2.1, fun a b d h1 h2 h3 h4 => hF.2.2 a b d h1 h2 h3 (by omega)⟩
theorem xw_f7 {post : SX → Prop} (hL : xw_L n lf L) (hP : xw_C pl n Q) (hn : n ≤ 16) (hok : ∀ i, i < n → gm_ok (Q i))
    (h : ∀ c f co tt', c ≤ 32 → ls_L (gm_Vt Q (fun p => p < n ∧ ¬ L p)) c f → xw_C co c f → xw_T tt' c n Q f → post (fc, nI c, pl, co, tt', st)) :
    ∀ (d i c : Nat) (f : Nat → gm_V) (co : Nat → Int32), i + d = n → xw_C co c f → xw_FI Q n L i 0 0 c f →
      wX_findCorners_7 post (nI n) lf (d + 1) (nI i) fc (nI c) pl co tt st := by
  intro d
  induction d with
  | zero =>
    intro i c f co hi hC hF
    have : i = n := by omega
    subst this
    have hc := xw_FI_c hn hF
    have hbd : ∀ a, a < c → gm_bd (f a) := fun a ha => gm_vt_bd (fun i hi => hok i hi.1) (hF.1 a ha)
    refine br_t (nI_le (Nat.le_refl _) (by omega)) ⟨c + 1, xw_f109 hP hn hok hC hc hbd (fun tt' hT => h c f co tt' hc ⟨hF.1, hF.2.1, fun p hp => ?_⟩ hC hT) c 0 tt (by omega) (fun k hk => by omega)⟩
    obtain ⟨a, b, d, h1, h2, ha, hb, hd, hdt, e⟩ := gm_vt_pt hp
    obtain ⟨m, hm, e2⟩ := hF.2.2 a b d h1 h2 hd.1 (by omega) ha.2 hb.2 hd.2 hdt (e ▸ hp.1.2.1)
    exact ⟨m, hm, e2.trans e.symm⟩
  | succ d ih =>
    intro i c f co hi hC hF
    refine br_f (nI_ge (by omega) (by omega)) (nm_r (nI_1 i) ⟨n - (i + 1) + 1, xw_f17 hL hP hn hok (by omega) (fun c f co hC hF => ?_) (n - (i + 1)) (i + 1) c f co (by omega) hC ?_⟩)
    · refine ih (i + 1) c f co (by omega) hC ⟨hF.1, hF.2.1, fun a b d h1 h2 h3 h4 => hF.2.2 a b d h1 h2 h3 (by omega)⟩
    · exact ⟨hF.1, hF.2.1, fun a b d h1 h2 h3 h4 => hF.2.2 a b d h1 h2 h3 (by omega)⟩
theorem xw_find {post : SX → Prop} (hL : xw_L n lf L) (hP : xw_C pl n Q) (hn : n ≤ 16) (hok : ∀ i, i < n → gm_ok (Q i))
    (h : ∀ c f co tt', c ≤ 32 → ls_L (gm_Vt Q (fun p => p < n ∧ ¬ L p)) c f → xw_C co c f → xw_T tt' c n Q f → post (fc, nI c, pl, co, tt', st)) :
    wpX_findCorners post (fc, ff, pl, co, tt, st) (nI n) lf :=
  ⟨n + 1, xw_f7 hL hP hn hok h n 0 0 (fun _ => (0, 0, 0, 0)) co (by omega) (fun k hk => by omega)
    ⟨fun a ha => by omega, fun a b _ hb => by omega, fun a b d _ _ _ h4 => by omega⟩⟩
end
end
section
/-! The reference's small methods -/
section
/-- four arrays that hold points -/
def yw_A (a b d e : Nat → Int32) (c : Nat) (f : Nat → gm_V) : Prop :=
  ∀ k, k < c → a k = nu_I (f k).1 ∧ b k = nu_I (f k).2.1 ∧ d k = nu_I (f k).2.2.1 ∧ e k = nu_I (f k).2.2.2
theorem yw_A_le {a b d e : Nat → Int32} {c c' : Nat} {f : Nat → gm_V} (h : yw_A a b d e c f) (hc : c' ≤ c) : yw_A a b d e c' f := fun k hk => h k (by omega)
theorem yw_A_cg {a b d e : Nat → Int32} {c : Nat} {f g : Nat → gm_V} (h : yw_A a b d e c f) (he : ∀ k, k < c → f k = g k) : yw_A a b d e c g := fun k hk => he k hk ▸ h k hk
theorem yw_put {a b d e : Nat → Int32} {c : Nat} {f : Nat → gm_V} {p : gm_V} (h : yw_A a b d e c f) :
    yw_A (upd a c (nu_I p.1)) (upd b c (nu_I p.2.1)) (upd d c (nu_I p.2.2.1)) (upd e c (nu_I p.2.2.2)) (c + 1) (ls_ins f p c) := by
  intro k hk
  by_cases z : k = c
  · subst z
    rw [ls_ins_eq]
    exact ⟨pk_us, pk_us, pk_us, pk_us⟩
  · rw [ls_ins_lo (by omega), pk_un z, pk_un z, pk_un z, pk_un z]
    exact h k (by omega)

variable {fn fp fk : Int32} {nr nb gu gv gw gd gx gy gz gb gt gf : Nat → Int32} {Q f : Nat → gm_V} {n c : Nat}
theorem yw_in {post : Int32 → Prop} {p lo hi : Int32} (h1 : ¬ p < lo → ¬ hi < p → post 1) (h0 : (p < lo ∨ hi < p) → post 0) : wpY_in post (fn, fp, fk, nr, nb, gu, gv, gw, gd, gx, gy, gz, gb, gt, gf) p lo hi :=
  br_c (fun g => h0 (.inl g)) (fun g => br_c (fun e => h0 (.inr e)) (fun e => h1 g e))
theorem yw_cr0 {post : Int32 → Prop} (hQ : yw_A gu gv gw gd n Q) (hn : n ≤ 16) {p q : Nat} (hp : p < n) (hq : q < n)
    (h : post (nu_I (gm_cr (Q p) (Q q)).1)) : wpY_cross post (fn, fp, fk, nr, nb, gu, gv, gw, gd, gx, gy, gz, gb, gt, gf) (nI p) (nI q) 0 := by
  obtain ⟨p0, p1, p2, p3⟩ := hQ p hp
  obtain ⟨q0, q1, q2, q3⟩ := hQ q hq
  have vp := vp_in_nI (n := p) (N := 16) (by omega) (by omega)
  have vq := vp_in_nI (n := q) (N := 16) (by omega) (by omega)
  refine br_t rfl ⟨vp, vq, vp, vq, ?_⟩
  rw [nI_clamp (by omega), nI_clamp (by omega), p1, p2, q1, q2, nu_mul, nu_mul, nu_sub]
  exact h
theorem yw_cr1 {post : Int32 → Prop} (hQ : yw_A gu gv gw gd n Q) (hn : n ≤ 16) {p q : Nat} (hp : p < n) (hq : q < n)
    (h : post (nu_I (gm_cr (Q p) (Q q)).2.1)) : wpY_cross post (fn, fp, fk, nr, nb, gu, gv, gw, gd, gx, gy, gz, gb, gt, gf) (nI p) (nI q) 1 := by
  obtain ⟨p0, p1, p2, p3⟩ := hQ p hp
  obtain ⟨q0, q1, q2, q3⟩ := hQ q hq
  have vp := vp_in_nI (n := p) (N := 16) (by omega) (by omega)
  have vq := vp_in_nI (n := q) (N := 16) (by omega) (by omega)
  refine br_f (by decide) (br_t rfl ⟨vp, vq, vp, vq, ?_⟩)
  rw [nI_clamp (by omega), nI_clamp (by omega), p0, p2, q0, q2, nu_mul, nu_mul, nu_sub]
  exact h
theorem yw_cr2 {post : Int32 → Prop} (hQ : yw_A gu gv gw gd n Q) (hn : n ≤ 16) {p q : Nat} (hp : p < n) (hq : q < n)
    (h : post (nu_I (gm_cr (Q p) (Q q)).2.2.1)) : wpY_cross post (fn, fp, fk, nr, nb, gu, gv, gw, gd, gx, gy, gz, gb, gt, gf) (nI p) (nI q) 2 := by
  obtain ⟨p0, p1, p2, p3⟩ := hQ p hp
  obtain ⟨q0, q1, q2, q3⟩ := hQ q hq
  have vp := vp_in_nI (n := p) (N := 16) (by omega) (by omega)
  have vq := vp_in_nI (n := q) (N := 16) (by omega) (by omega)
  refine br_f (by decide) (br_f (by decide) ⟨vp, vq, vp, vq, ?_⟩)
  rw [nI_clamp (by omega), nI_clamp (by omega), p0, p1, q0, q1, nu_mul, nu_mul, nu_sub]
  exact h
theorem yw_det {post : Int32 → Prop} (hQ : yw_A gu gv gw gd n Q) (hn : n ≤ 16) {p q r : Nat} (hp : p < n) (hq : q < n) (hr : r < n)
    (h : post (nu_I (gm_dt (Q p) (Q q) (Q r)))) : wpY_determinant post (fn, fp, fk, nr, nb, gu, gv, gw, gd, gx, gy, gz, gb, gt, gf) (nI p) (nI q) (nI r) := by
  obtain ⟨p0, p1, p2, p3⟩ := hQ p hp
  have vp := vp_in_nI (n := p) (N := 16) (by omega) (by omega)
  refine ⟨vp, yw_cr0 hQ hn hq hr ⟨vp, yw_cr1 hQ hn hq hr ⟨vp, yw_cr2 hQ hn hq hr ?_⟩⟩⟩
  rw [nI_clamp (by omega), p0, p1, p2, nu_mul, nu_mul, nu_mul, nu_add, nu_add]
  have e : (Q p).1 * (gm_cr (Q q) (Q r)).1 + (Q p).2.1 * (gm_cr (Q q) (Q r)).2.1 + (Q p).2.2.1 * (gm_cr (Q q) (Q r)).2.2.1 = gm_dt (Q p) (Q q) (Q r) := by
    simp only [gm_cr, gm_dt]; grind
  rw [e]; exact h
theorem yw_met0 {post : Int32 → Prop} (hQ : yw_A gu gv gw gd n Q) (hn : n ≤ 16) {p q r : Nat} (hp : p < n) (hq : q < n) (hr : r < n)
    (h : post (nu_I (gm_cp (Q p) (Q q) (Q r)).1)) : wpY_met post (fn, fp, fk, nr, nb, gu, gv, gw, gd, gx, gy, gz, gb, gt, gf) (nI p) (nI q) (nI r) 0 := by
  have vp := vp_in_nI (n := p) (N := 16) (by omega) (by omega)
  have vq := vp_in_nI (n := q) (N := 16) (by omega) (by omega)
  have vr := vp_in_nI (n := r) (N := 16) (by omega) (by omega)
  refine ⟨vp, yw_cr0 hQ hn hq hr ⟨vq, yw_cr0 hQ hn hr hp ⟨vr, yw_cr0 hQ hn hp hq ?_⟩⟩⟩
  rw [nI_clamp (by omega), nI_clamp (by omega), nI_clamp (by omega), (hQ p hp).2.2.2, (hQ q hq).2.2.2, (hQ r hr).2.2.2, nu_mul, nu_mul, nu_mul, nu_add, nu_add]
  have e : (Q p).2.2.2 * (gm_cr (Q q) (Q r)).1 + (Q q).2.2.2 * (gm_cr (Q r) (Q p)).1 + (Q r).2.2.2 * (gm_cr (Q p) (Q q)).1 = (gm_cp (Q p) (Q q) (Q r)).1 := by
    simp only [gm_cr, gm_cp, gm_dt]; grind
  rw [e]; exact h
theorem yw_met1 {post : Int32 → Prop} (hQ : yw_A gu gv gw gd n Q) (hn : n ≤ 16) {p q r : Nat} (hp : p < n) (hq : q < n) (hr : r < n)
    (h : post (nu_I (gm_cp (Q p) (Q q) (Q r)).2.1)) : wpY_met post (fn, fp, fk, nr, nb, gu, gv, gw, gd, gx, gy, gz, gb, gt, gf) (nI p) (nI q) (nI r) 1 := by
  have vp := vp_in_nI (n := p) (N := 16) (by omega) (by omega)
  have vq := vp_in_nI (n := q) (N := 16) (by omega) (by omega)
  have vr := vp_in_nI (n := r) (N := 16) (by omega) (by omega)
  refine ⟨vp, yw_cr1 hQ hn hq hr ⟨vq, yw_cr1 hQ hn hr hp ⟨vr, yw_cr1 hQ hn hp hq ?_⟩⟩⟩
  rw [nI_clamp (by omega), nI_clamp (by omega), nI_clamp (by omega), (hQ p hp).2.2.2, (hQ q hq).2.2.2, (hQ r hr).2.2.2, nu_mul, nu_mul, nu_mul, nu_add, nu_add]
  have e : (Q p).2.2.2 * (gm_cr (Q q) (Q r)).2.1 + (Q q).2.2.2 * (gm_cr (Q r) (Q p)).2.1 + (Q r).2.2.2 * (gm_cr (Q p) (Q q)).2.1 = (gm_cp (Q p) (Q q) (Q r)).2.1 := by
    simp only [gm_cr, gm_cp, gm_dt]; grind
  rw [e]; exact h
theorem yw_met2 {post : Int32 → Prop} (hQ : yw_A gu gv gw gd n Q) (hn : n ≤ 16) {p q r : Nat} (hp : p < n) (hq : q < n) (hr : r < n)
    (h : post (nu_I (gm_cp (Q p) (Q q) (Q r)).2.2.1)) : wpY_met post (fn, fp, fk, nr, nb, gu, gv, gw, gd, gx, gy, gz, gb, gt, gf) (nI p) (nI q) (nI r) 2 := by
  have vp := vp_in_nI (n := p) (N := 16) (by omega) (by omega)
  have vq := vp_in_nI (n := q) (N := 16) (by omega) (by omega)
  have vr := vp_in_nI (n := r) (N := 16) (by omega) (by omega)
  refine ⟨vp, yw_cr2 hQ hn hq hr ⟨vq, yw_cr2 hQ hn hr hp ⟨vr, yw_cr2 hQ hn hp hq ?_⟩⟩⟩
  rw [nI_clamp (by omega), nI_clamp (by omega), nI_clamp (by omega), (hQ p hp).2.2.2, (hQ q hq).2.2.2, (hQ r hr).2.2.2, nu_mul, nu_mul, nu_mul, nu_add, nu_add]
  have e : (Q p).2.2.2 * (gm_cr (Q q) (Q r)).2.2.1 + (Q q).2.2.2 * (gm_cr (Q r) (Q p)).2.2.1 + (Q r).2.2.2 * (gm_cr (Q p) (Q q)).2.2.1 = (gm_cp (Q p) (Q q) (Q r)).2.2.1 := by
    simp only [gm_cr, gm_cp, gm_dt]; grind
  rw [e]; exact h
theorem yw_side {post : Int64 → Prop} (hQ : yw_A gu gv gw gd n Q) (hn : n ≤ 16) (hC : yw_A gx gy gz gb c f) (hc : c ≤ 40) {p k : Nat} (hp : p < n) (hk : k < c)
    (ok : gm_ok (Q p)) (bd : gm_bd (f k)) (h : post (nu_L (gm_ev (Q p) (f k)))) : wpY_side post (fn, fp, fk, nr, nb, gu, gv, gw, gd, gx, gy, gz, gb, gt, gf) (nI p) (nI k) := by
  obtain ⟨p0, p1, p2, p3⟩ := hQ p hp
  obtain ⟨k0, k1, k2, k3⟩ := hC k hk
  obtain ⟨a1, a2, a3, a4⟩ := ok
  obtain ⟨b1, b2, b3, b4⟩ := bd
  have vp := vp_in_nI (n := p) (N := 16) (by omega) (by omega)
  have vk := vp_in_nI (n := k) (N := 40) (by omega) (by omega)
  refine ⟨vp, vk, vp, vk, vp, vk, vp, vk, ?_⟩
  rw [nI_clamp (by omega), nI_clamp (by omega), p0, p1, p2, p3, k0, k1, k2, k3, nu_64 (by omega) (by omega), nu_64 (by omega) (by omega), nu_64 (by omega) (by omega), nu_64 (by omega) (by omega),
    nu_64 (by omega) (by omega), nu_64 (by omega) (by omega), nu_64 (by omega) (by omega), nu_64 (by omega) (by omega)]
  simp only [nu_Lmul, nu_Ladd, nu_Lsub]
  exact h
/-- the divisor: the steps that do nothing, then Euclid's -/
theorem yw_idle {post : Int32 → Prop} {g : Nat} (hg : g < 2 ^ 31) (h : post (nI (if g = 0 then 1 else g))) :
    ∀ d s : Nat, s + d = 60 → wY_common_26 post fn fp fk nr nb gu gv gw gd gx gy gz gb gt gf (d + 1) (nI g) 0 (nI s) := by
  intro d
  induction d with
  | zero =>
    intro s hs
    have : s = 60 := by omega
    subst this
    refine br_t (by decide) ?_
    by_cases e : g = 0
    · subst e
      rw [if_pos rfl] at h
      exact br_f (by decide) h
    · rw [if_neg e] at h
      exact br_t (nI_le (a := 1) (by omega) (by omega)) h
  | succ d ih =>
    intro s hs
    exact br_f (nI_ge (b := 60) (by omega) (by decide)) (br_t rfl (nm_r (nI_1 s) (ih (s + 1) (by omega))))
theorem yw_step {post : Int32 → Prop} {g h s m : Nat} (hg : g < 2 ^ 31) (hh : h < 2 ^ 31) (h0 : h ≠ 0) (hs : s < 60)
    (k : wY_common_26 post fn fp fk nr nb gu gv gw gd gx gy gz gb gt gf m (nI h) (nI (g % h)) (nI (s + 1))) : wY_common_26 post fn fp fk nr nb gu gv gw gd gx gy gz gb gt gf (m + 1) (nI g) (nI h) (nI s) := by
  have hz : ¬ nI h = 0 := nI_ne0 (by omega) hh
  exact br_f (nI_ge (b := 60) hs (by decide)) (br_f hz (br_f hz ⟨hz, nm_r (pk_rem hg (by omega) hh) (nm_r (nI_1 s) k)⟩))
theorem yw_c26 {post : Int32 → Prop} : ∀ (t g h s m : Nat), g < 2 ^ 31 → h < 2 ^ t → t ≤ 30 → s + 2 * t ≤ 60 → m + s = 61 →
    post (nI (if Nat.gcd g h = 0 then 1 else Nat.gcd g h)) → wY_common_26 post fn fp fk nr nb gu gv gw gd gx gy gz gb gt gf m (nI g) (nI h) (nI s) := by
  intro t
  induction t with
  | zero =>
    intro g h s m hg hh _ hs hm k
    have e : h = 0 := by simp at hh; omega
    subst e
    rw [Nat.gcd_zero_right] at k
    obtain ⟨m', rfl⟩ : ∃ m', m = m' + 1 := ⟨m - 1, by omega⟩
    exact yw_idle hg k m' s (by omega)
  | succ t ih =>
    intro g h s m hg hh ht hs hm k
    obtain ⟨m', rfl⟩ : ∃ m', m = m' + 1 := ⟨m - 1, by omega⟩
    have hp : 2 ^ (t + 1) ≤ 2 ^ 30 := Nat.pow_le_pow_right (by decide) ht
    by_cases e : h = 0
    · subst e
      rw [Nat.gcd_zero_right] at k
      exact yw_idle hg k m' s (by omega)
    · refine yw_step hg (by omega) e (by omega) ?_
      have hl : g % h < h := Nat.mod_lt _ (by omega)
      obtain ⟨m'', rfl⟩ : ∃ m'', m' = m'' + 1 := ⟨m' - 1, by omega⟩
      by_cases e2 : g % h = 0
      · rw [e2]
        refine yw_idle (by omega) ?_ m'' (s + 1) (by omega)
        have : Nat.gcd g h = h := by rw [← nu_eu (show 0 < h by omega), e2]; simp
        rw [this] at k
        exact k
      · refine yw_step (by omega) (by omega) e2 (by omega) ?_
        have hh2 := nu_half (B := h) (R := g % h) (by omega) hl
        refine ih _ _ _ _ (by omega) (by rw [Nat.pow_succ] at hh; omega) (by omega) (by omega) (by omega) ?_
        rw [nu_eu (show 0 < g % h by omega), nu_eu (show 0 < h by omega)]
        exact k
theorem yw_common {post : Int32 → Prop} {a b : Int} (h1 : a.natAbs < 2 ^ 30) (h2 : b.natAbs < 2 ^ 30)
    (h : post (nI (if Nat.gcd a.natAbs b.natAbs = 0 then 1 else Nat.gcd a.natAbs b.natAbs))) : wpY_common post (fn, fp, fk, nr, nb, gu, gv, gw, gd, gx, gy, gz, gb, gt, gf) (nu_I a) (nu_I b) := by
  have H : wY_common_10 post (nu_I b) (nI a.natAbs) fn fp fk nr nb gu gv gw gd gx gy gz gb gt gf := by
    by_cases c : 0 ≤ b
    · have e : nu_I b = nI b.natAbs := by rw [nu_nI]; congr 1; omega
      refine br_t ((nu_ge0 (by omega) (by omega)).mpr c) ⟨61, ?_⟩
      rw [e]
      exact yw_c26 30 _ _ 0 61 (by omega) h2 (by omega) (by omega) (by omega) h
    · have e : -nu_I b = nI b.natAbs := by rw [nu_neg, nu_nI]; congr 1; omega
      exact br_f (fun z => c ((nu_ge0 (by omega) (by omega)).mp z)) (nm_r e ⟨61, yw_c26 30 _ _ 0 61 (by omega) h2 (by omega) (by omega) (by omega) h⟩)
  by_cases c : 0 ≤ a
  · have e : nu_I a = nI a.natAbs := by rw [nu_nI]; congr 1; omega
    refine br_t ((nu_ge0 (by omega) (by omega)).mpr c) ?_
    rw [e]; exact H
  · have e : -nu_I a = nI a.natAbs := by rw [nu_neg, nu_nI]; congr 1; omega
    refine br_f (fun z => c ((nu_ge0 (by omega) (by omega)).mp z)) ?_
    rw [e]; exact H
end
end
section
/-! The reference tries a point -/
section
theorem yw_g4 (p : gm_V) : Nat.gcd (Nat.gcd (Nat.gcd p.1.natAbs p.2.1.natAbs) p.2.2.2.natAbs) p.2.2.1.natAbs = gm_g4 p := by
  unfold gm_g4
  rw [Nat.gcd_comm (Nat.gcd p.1.natAbs p.2.1.natAbs) p.2.2.2.natAbs, ← Nat.gcd_assoc]
theorem yw_q {p : gm_V} (hw : 0 < p.2.2.2) : gm_q p = gm_g4 p := by unfold gm_q; rw [if_neg (by omega)]
theorem yw_red_neg {p : gm_V} (hw : p.2.2.2 < 0) : gm_red (-p.1, -p.2.1, -p.2.2.1, -p.2.2.2) = gm_red p := by
  have e : gm_g4 (-p.1, -p.2.1, -p.2.2.1, -p.2.2.2) = gm_g4 p := by simp only [gm_g4, Int.natAbs_neg]
  have e1 : gm_q (-p.1, -p.2.1, -p.2.2.1, -p.2.2.2) = (gm_g4 p : Int) := by
    unfold gm_q
    rw [e]
    dsimp only
    rw [if_neg (by omega)]
  have e2 : gm_q p = -(gm_g4 p : Int) := by unfold gm_q; rw [if_pos hw]
  simp only [gm_red, e1, e2, Int.neg_tdiv, Int.tdiv_neg]

variable {fn fp fk : Int32} {nr nb gu gv gw gd gx gy gz gb gt gf : Nat → Int32} {Q f : Nat → gm_V} {n c : Nat}
theorem yw_r89 {post : SY → Prop} {k : Nat} {p : gm_V} (hk : k < 40) (hb : gm_bd p) (hw : 0 < p.2.2.2)
    (h1 : gx k = nu_I p.1) (h2 : gy k = nu_I p.2.1) (h3 : gz k = nu_I p.2.2.1) (h4 : gb k = nu_I p.2.2.2)
    (h : post (fn, fp, fk, nr, nb, gu, gv, gw, gd, upd gx k (nu_I (gm_red p).1), upd gy k (nu_I (gm_red p).2.1), upd gz k (nu_I (gm_red p).2.2.1), upd gb k (nu_I (gm_red p).2.2.2), gt, gf)) :
    wY_reduce_89 post (nI k) (nI (gm_g4 p)) (nI (gm_g4 p)) (gx k) (nI k) fn fp fk nr nb gu gv gw gd gx gy gz gb gt gf := by
  have hg := gm_g4_pos (p := p) (by omega)
  have hl := gm_g4_le (p := p) (by omega)
  obtain ⟨b1, b2, b3, b4⟩ := hb
  have vk := vp_in_nI (n := k) (N := 40) hk (by omega)
  have hz : ¬ nI (gm_g4 p) = 0 := nI_ne0 hg (by omega)
  have h1' : (1 : Int32) ≤ nI (gm_g4 p) := nI_le (a := 1) hg (by omega)
  have hq := yw_q hw
  have d : ∀ x : Int, -5760 ≤ x → x ≤ 5760 → nu_I x / nI (gm_g4 p) = nu_I (x.tdiv (gm_q p)) := by
    intro x x1 x2
    rw [nu_nI, nu_div (by omega) (by omega) (by omega) (by omega), hq]
  refine ⟨hz, vk, nm_e ⟨vk, br_t h1' ?_⟩⟩
  refine ⟨hz, vk, nm_e ⟨vk, br_t h1' ?_⟩⟩
  refine ⟨hz, vk, nm_e ⟨vk, br_t h1' ⟨hz, vk, nm_e ?_⟩⟩⟩
  rw [nI_clamp (by omega), h1, h2, h3, h4, d _ (by omega) (by omega), d _ (by omega) (by omega), d _ (by omega) (by omega), d _ (by omega) (by omega)]
  exact h
theorem yw_r55 {post : SY → Prop} {k : Nat} {p : gm_V} {g : Int} (hk : k < 40) (hb : gm_bd p) (hw : 0 < p.2.2.2)
    (h1 : gx k = nu_I p.1) (h2 : gy k = nu_I p.2.1) (h3 : gz k = nu_I p.2.2.1) (h4 : gb k = nu_I p.2.2.2) (hg : g.natAbs < 2 ^ 30) (he : Nat.gcd g.natAbs p.2.2.1.natAbs = gm_g4 p)
    (h : post (fn, fp, fk, nr, nb, gu, gv, gw, gd, upd gx k (nu_I (gm_red p).1), upd gy k (nu_I (gm_red p).2.1), upd gz k (nu_I (gm_red p).2.2.1), upd gb k (nu_I (gm_red p).2.2.2), gt, gf)) :
    wY_reduce_55 post (nI k) (nu_I g) fn fp fk nr nb gu gv gw gd gx gy gz gb gt gf := by
  have hg0 := gm_g4_pos (p := p) (by omega)
  have hl := gm_g4_le (p := p) (by omega)
  have b := hb
  obtain ⟨b1, b2, b3, b4⟩ := b
  have vk := vp_in_nI (n := k) (N := 40) hk (by omega)
  have h1' : (1 : Int32) ≤ nI (gm_g4 p) := nI_le (a := 1) hg0 (by omega)
  unfold wY_reduce_55
  rw [nI_clamp (by omega), h3]
  refine ⟨vk, yw_common hg (by omega) ?_⟩
  rw [he, if_neg (by omega)]
  exact ⟨vk, br_t h1' (yw_r89 hk hb hw h1 h2 h3 h4 h)⟩
theorem yw_r44 {post : SY → Prop} {k : Nat} {p : gm_V} (hk : k < 40) (hb : gm_bd p) (hw : 0 < p.2.2.2)
    (h1 : gx k = nu_I p.1) (h2 : gy k = nu_I p.2.1) (h3 : gz k = nu_I p.2.2.1) (h4 : gb k = nu_I p.2.2.2) (hn : Nat.gcd p.1.natAbs p.2.1.natAbs ≠ 0) (hs : Nat.gcd p.1.natAbs p.2.1.natAbs < 2 ^ 30)
    (h : post (fn, fp, fk, nr, nb, gu, gv, gw, gd, upd gx k (nu_I (gm_red p).1), upd gy k (nu_I (gm_red p).2.1), upd gz k (nu_I (gm_red p).2.2.1), upd gb k (nu_I (gm_red p).2.2.2), gt, gf)) :
    wY_reduce_44 post (nI k) (nI (Nat.gcd p.1.natAbs p.2.1.natAbs)) fn fp fk nr nb gu gv gw gd gx gy gz gb gt gf := by
  have b := hb
  obtain ⟨b1, b2, b3, b4⟩ := b
  have vk := vp_in_nI (n := k) (N := 40) hk (by omega)
  have l : Nat.gcd (Nat.gcd p.1.natAbs p.2.1.natAbs) p.2.2.2.natAbs ≤ p.2.2.2.natAbs := Nat.le_of_dvd (by omega) (Nat.gcd_dvd_right _ _)
  have l0 : 0 < Nat.gcd (Nat.gcd p.1.natAbs p.2.1.natAbs) p.2.2.2.natAbs := Nat.gcd_pos_of_pos_right _ (by omega)
  unfold wY_reduce_44
  rw [nI_clamp (by omega), h4, nu_nI (Nat.gcd p.1.natAbs p.2.1.natAbs)]
  refine ⟨vk, yw_common (a := (Nat.gcd p.1.natAbs p.2.1.natAbs : Nat)) (b := p.2.2.2) (by rw [Int.natAbs_natCast]; exact hs) (by omega) ?_⟩
  rw [Int.natAbs_natCast, if_neg (by omega), nu_nI (Nat.gcd (Nat.gcd p.1.natAbs p.2.1.natAbs) p.2.2.2.natAbs)]
  refine yw_r55 hk hb hw h1 h2 h3 h4 (by rw [Int.natAbs_natCast]; omega) ?_ h
  rw [Int.natAbs_natCast]
  exact yw_g4 p
theorem yw_reduce {post : SY → Prop} {k : Nat} {p : gm_V} (hk : k < 40) (hb : gm_bd p) (hw : 0 < p.2.2.2)
    (h1 : gx k = nu_I p.1) (h2 : gy k = nu_I p.2.1) (h3 : gz k = nu_I p.2.2.1) (h4 : gb k = nu_I p.2.2.2)
    (h : post (fn, fp, fk, nr, nb, gu, gv, gw, gd, upd gx k (nu_I (gm_red p).1), upd gy k (nu_I (gm_red p).2.1), upd gz k (nu_I (gm_red p).2.2.1), upd gb k (nu_I (gm_red p).2.2.2), gt, gf)) :
    wpY_reduce post (fn, fp, fk, nr, nb, gu, gv, gw, gd, gx, gy, gz, gb, gt, gf) (nI k) := by
  have b := hb
  obtain ⟨b1, b2, b3, b4⟩ := b
  have vk := vp_in_nI (n := k) (N := 40) hk (by omega)
  unfold wpY_reduce
  dsimp only
  rw [nI_clamp (by omega), h1, h2, h4]
  refine ⟨vk, vk, yw_common (by omega) (by omega) ⟨vk, br_c (fun e1 => ⟨vk, br_c (fun e2 => ⟨vk, ?_⟩) (fun e2 => ?_)⟩) (fun e1 => ?_)⟩⟩
  · have z1 := (nu_eq0 (by omega) (by omega)).mp e1
    have z2 := (nu_eq0 (by omega) (by omega)).mp e2
    refine yw_r55 hk hb hw h1 h2 h3 h4 (by omega) ?_ h
    rw [← yw_g4, z1, z2]
    simp
  · have z2 : p.2.1 ≠ 0 := fun z => e2 ((nu_eq0 (by omega) (by omega)).mpr z)
    have l0 : 0 < Nat.gcd p.1.natAbs p.2.1.natAbs := Nat.gcd_pos_of_pos_right _ (by omega)
    have l1 : Nat.gcd p.1.natAbs p.2.1.natAbs ≤ p.2.1.natAbs := Nat.le_of_dvd (by omega) (Nat.gcd_dvd_right _ _)
    rw [if_neg (by omega)]
    exact yw_r44 hk hb hw h1 h2 h3 h4 (by omega) (by omega) h
  · have z1 : p.1 ≠ 0 := fun z => e1 ((nu_eq0 (by omega) (by omega)).mpr z)
    have l0 : 0 < Nat.gcd p.1.natAbs p.2.1.natAbs := Nat.gcd_pos_of_pos_left _ (by omega)
    have l1 : Nat.gcd p.1.natAbs p.2.1.natAbs ≤ p.1.natAbs := Nat.le_of_dvd (by omega) (Nat.gcd_dvd_left _ _)
    rw [if_neg (by omega)]
    exact yw_r44 hk hb hw h1 h2 h3 h4 (by omega) (by omega) h

theorem yw_t178 {post : SY → Prop} (hC : yw_A gx gy gz gb (c + 1) f) (hc : c ≤ 32) (hb : ∀ k, k < c + 1 → gm_bd (f k))
    (h0 : (∃ m, m < c ∧ f m = f c) → post (fn, fp, nI c, nr, nb, gu, gv, gw, gd, gx, gy, gz, gb, gt, gf)) (h1 : (∀ m, m < c → f m ≠ f c) → post (fn, fp, nI (c + 1), nr, nb, gu, gv, gw, gd, gx, gy, gz, gb, gt, gf)) :
    ∀ d k : Nat, k + d = c → (∀ m, m < k → f m ≠ f c) → wY_tryPoint_178 post (nI c) fn fp (nI c) nr nb gu gv gw gd gx gy gz gb gt gf (d + 1) (nI k) := by
  intro d
  induction d with
  | zero =>
    intro k hk hI
    have : k = c := by omega
    subst this
    exact br_t (nI_le (Nat.le_refl _) (by omega)) (nm_r (nI_1 k) (h1 hI))
  | succ d ih =>
    intro k hk hI
    have vk := vp_in_nI (n := k) (N := 40) (by omega) (by omega)
    have vc := vp_in_nI (n := c) (N := 40) (by omega) (by omega)
    obtain ⟨k0, k1, k2, k3⟩ := hC k (by omega)
    obtain ⟨c0, c1, c2, c3⟩ := hC c (by omega)
    obtain ⟨b1, b2, b3, b4⟩ := hb k (by omega)
    obtain ⟨a1, a2, a3, a4⟩ := hb c (by omega)
    have nx : f k ≠ f c → ∀ z, z = nI k + 1 → wY_tryPoint_178 post (nI c) fn fp (nI c) nr nb gu gv gw gd gx gy gz gb gt gf (d + 1) z := by
      intro hne
      refine nm_r (nI_1 k) (ih (k + 1) (by omega) (fun m hm => ?_))
      by_cases e : m = k
      · subst e; exact hne
      · exact hI m (by omega)
    unfold wY_tryPoint_178
    rw [nI_clamp (by omega), nI_clamp (by omega), k0, k1, k2, k3, c0, c1, c2, c3]
    refine br_f (nI_ge (by omega) (by omega)) ⟨vk, vc, br_c (fun e0 => ⟨vk, vc, br_c (fun e1 => ⟨vk, vc, br_c (fun e2 => ⟨vk, vc, br_c (fun e3 => ?_) (fun e3 => ?_)⟩) (fun e2 => ?_)⟩) (fun e1 => ?_)⟩) (fun e0 => ?_)⟩
    · have z0 := (nu_eq (by omega) (by omega) (by omega) (by omega)).mp e0
      have z1 := (nu_eq (by omega) (by omega) (by omega) (by omega)).mp e1
      have z2 := (nu_eq (by omega) (by omega) (by omega) (by omega)).mp e2
      have z3 := (nu_eq (by omega) (by omega) (by omega) (by omega)).mp e3
      exact h0 ⟨k, by omega, Prod.ext z0 (Prod.ext z1 (Prod.ext z2 z3))⟩
    · exact nx (fun z => e3 (by rw [z]))
    · exact nx (fun z => e2 (by rw [z]))
    · exact nx (fun z => e1 (by rw [z]))
    · exact nx (fun z => e0 (by rw [z]))

theorem yw_t110 {post : SY → Prop} {p : gm_V} (hQ : yw_A gu gv gw gd n Q) (hn : n ≤ 16) (hok : ∀ i, i < n → gm_ok (Q i)) (hC : yw_A gx gy gz gb (c + 1) (ls_ins f p c)) (hc : c ≤ 32)
    (hb : ∀ k, k < c → gm_bd (f k)) (bp : gm_bd p) (pw : 0 < p.2.2.2)
    (h0 : ∀ gt', (∀ k, k < c → gt' k = gt k) → ¬ gm_In Q (fun s => s < n) (gm_red p) → post (fn, nI n, nI c, nr, nb, gu, gv, gw, gd, gx, gy, gz, gb, gt', gf))
    (h2 : ∀ gx gy gz gb gt', (∀ k, k < c → gt' k = gt k) → (∃ m, gt' c = nI m ∧ nu_ms m n (fun s => gm_ev (Q s) (gm_red p) = 0)) → gm_In Q (fun s => s < n) (gm_red p) →
      yw_A gx gy gz gb (c + 1) (ls_ins f (gm_red p) c) → (∃ m, m < c ∧ f m = gm_red p) → post (fn, nI n, nI c, nr, nb, gu, gv, gw, gd, gx, gy, gz, gb, gt', gf))
    (h3 : ∀ gx gy gz gb gt', (∀ k, k < c → gt' k = gt k) → (∃ m, gt' c = nI m ∧ nu_ms m n (fun s => gm_ev (Q s) (gm_red p) = 0)) → gm_In Q (fun s => s < n) (gm_red p) →
      yw_A gx gy gz gb (c + 1) (ls_ins f (gm_red p) c) → (∀ m, m < c → f m ≠ gm_red p) → post (fn, nI n, nI (c + 1), nr, nb, gu, gv, gw, gd, gx, gy, gz, gb, gt', gf)) :
    ∀ (d s : Nat) (gt' : Nat → Int32), s + d = n → (∀ k, k < c → gt' k = gt k) → (∃ m, gt' c = nI m ∧ nu_ms m s (fun s => gm_ev (Q s) (gm_red p) = 0)) → (∀ i, i < s → gm_ev (Q i) (gm_red p) ≤ 0) →
      wY_tryPoint_110 post (nI c) fn (nI n) (nI c) (d + 1) (nI s) nr nb gu gv gw gd gx gy gz gb gt' gf := by
  have fe : ls_ins f p c c = p := ls_ins_eq
  obtain ⟨c0, c1, c2, c3⟩ := hC c (by omega)
  rw [fe] at c0 c1 c2 c3
  have hq := yw_q pw
  have hg := gm_g4_pos (p := p) (by omega)
  intro d
  induction d with
  | zero =>
    intro s gt' hs h4 h5 h6
    have : s = n := by omega
    subst this
    refine br_t (nI_le (Nat.le_refl _) (by omega)) (yw_reduce (by omega) bp pw c0 c1 c2 c3 ?_)
    have hA : yw_A (upd gx c (nu_I (gm_red p).1)) (upd gy c (nu_I (gm_red p).2.1)) (upd gz c (nu_I (gm_red p).2.2.1)) (upd gb c (nu_I (gm_red p).2.2.2)) (c + 1) (ls_ins f (gm_red p) c) :=
      yw_put (fun k hk => by
        have := hC k (by omega)
        rwa [ls_ins_lo hk] at this)
    have fe2 : ls_ins f (gm_red p) c c = gm_red p := ls_ins_eq
    refine ⟨c + 1, yw_t178 hA hc (fun k hk => ?_) (fun hx => ?_) (fun hx => ?_) c 0 (by omega) (fun m hm => by omega)⟩
    · by_cases e : k = c
      · subst e; rw [fe2]; exact gm_red_bd bp
      · rw [ls_ins_lo (by omega)]; exact hb k (by omega)
    · refine h2 _ _ _ _ gt' h4 h5 h6 hA ?_
      obtain ⟨m, hm, e⟩ := hx
      rw [fe2, ls_ins_lo hm] at e
      exact ⟨m, hm, e⟩
    · refine h3 _ _ _ _ gt' h4 h5 h6 hA (fun m hm e => ?_)
      apply hx m hm
      rw [fe2, ls_ins_lo hm]
      exact e
  | succ d ih =>
    intro s gt' hs h4 h5 h6
    have vc := vp_in_nI (n := c) (N := 40) (by omega) (by omega)
    have eb := gm_ev_bd (hok s (by omega)) bp
    have er := gm_red_ev (Q s) p
    rw [hq] at er
    refine br_f (nI_ge (by omega) (by omega)) (yw_side hQ hn hC (by omega) (by omega) (by omega) (hok s (by omega)) (by rw [fe]; exact bp) ?_)
    rw [fe]
    refine br_c (fun g => br_c (fun e => ?_) (fun e => ?_)) (fun g => ?_)
    · have z := (nu_Leq0 (by omega) (by omega)).mp e
      have z' : gm_ev (Q s) (gm_red p) = 0 := (Int.mul_eq_zero.mp (er ▸ z)).resolve_left (by omega)
      obtain ⟨m, hm, hms⟩ := h5
      rw [nI_clamp (by omega), hm, nx_bitp (by omega), nx_or2]
      refine ⟨vc, vc, nm_e (nm_r (nI_1 s) (ih (s + 1) _ (by omega) (fun k hk => ?_) ⟨m ||| 2 ^ s, pk_us, nu_ms_t hms z'⟩ (fun i hi => ?_)))⟩
      · rw [pk_un (by omega)]; exact h4 k hk
      · by_cases ei : i = s
        · subst ei; omega
        · exact h6 i (by omega)
    · have z : gm_ev (Q s) p ≠ 0 := fun k => e ((nu_Leq0 (by omega) (by omega)).mpr k)
      have zl := (nu_Lle0 (by omega) (by omega)).mp g
      have z' : gm_ev (Q s) (gm_red p) ≠ 0 := fun k => z (by rw [er, k]; simp)
      have zl' : gm_ev (Q s) (gm_red p) ≤ 0 := by
        rcases Int.lt_or_le 0 (gm_ev (Q s) (gm_red p)) with k | k
        · have := gm_pp (a := (gm_g4 p : Int)) (by omega) k
          omega
        · exact k
      obtain ⟨m, hm, hms⟩ := h5
      refine nm_r (nI_1 s) (ih (s + 1) gt' (by omega) h4 ⟨m, hm, nu_ms_f hms z'⟩ (fun i hi => ?_))
      by_cases ei : i = s
      · subst ei; exact zl'
      · exact h6 i (by omega)
    · refine h0 gt' h4 (fun hin => g ((nu_Lle0 (by omega) (by omega)).mpr ?_))
      have := gm_np (a := (gm_g4 p : Int)) (by omega) (hin s (by omega))
      omega
end
end
section
/-! The reference finds the list of the corners -/
section
variable {fn fp fk : Int32} {nr nb gu gv gw gd gx gy gz gb gt gf : Nat → Int32} {Q f : Nat → gm_V} {n c : Nat}
theorem yw_t25 {post : SY → Prop} {p q r : Nat} {sg : Int} (hQ : yw_A gu gv gw gd n Q) (hn : n ≤ 16) (hok : ∀ i, i < n → gm_ok (Q i)) (hC : yw_A gx gy gz gb c f) (hT : xw_T gt c n Q f) (hc : c ≤ 32)
    (hb : ∀ k, k < c → gm_bd (f k)) (hp : p < n) (hq : q < n) (hr : r < n) (hd : gm_dt (Q p) (Q q) (Q r) ≠ 0)
    (hsg : (sg = 1 ∧ 0 < gm_dt (Q p) (Q q) (Q r)) ∨ (sg = -1 ∧ gm_dt (Q p) (Q q) (Q r) < 0))
    (h0 : ∀ gx gy gz gb gt, yw_A gx gy gz gb c f → xw_T gt c n Q f → (gm_In Q (fun s => s < n) (gm_pt (Q p) (Q q) (Q r)) → ∃ m, m < c ∧ f m = gm_pt (Q p) (Q q) (Q r)) → post (fn, nI n, nI c, nr, nb, gu, gv, gw, gd, gx, gy, gz, gb, gt, gf))
    (h1 : ∀ gx gy gz gb gt, gm_In Q (fun s => s < n) (gm_pt (Q p) (Q q) (Q r)) → (∀ m, m < c → f m ≠ gm_pt (Q p) (Q q) (Q r)) →
      yw_A gx gy gz gb (c + 1) (ls_ins f (gm_pt (Q p) (Q q) (Q r)) c) → xw_T gt (c + 1) n Q (ls_ins f (gm_pt (Q p) (Q q) (Q r)) c) → post (fn, nI n, nI (c + 1), nr, nb, gu, gv, gw, gd, gx, gy, gz, gb, gt, gf)) :
    wY_tryPoint_25 post (nI p) (nI q) (nI r) (nu_I (gm_dt (Q p) (Q q) (Q r))) (nu_I sg) fn (nI n) (nI c) nr nb gu gv gw gd gx gy gz gb gt gf := by
  have vc := vp_in_nI (n := c) (N := 40) (by omega) (by omega)
  have hbd := gm_cp_bd (hok p hp) (hok q hq) (hok r hr)
  have ed : gm_dt (Q p) (Q q) (Q r) = (gm_cp (Q p) (Q q) (Q r)).2.2.2 := rfl
  have K : ∀ P : gm_V, P = (sg * (gm_cp (Q p) (Q q) (Q r)).1, sg * (gm_cp (Q p) (Q q) (Q r)).2.1, sg * (gm_cp (Q p) (Q q) (Q r)).2.2.1, sg * (gm_cp (Q p) (Q q) (Q r)).2.2.2) →
      gm_red P = gm_pt (Q p) (Q q) (Q r) ∧ 0 < P.2.2.2 ∧ gm_bd P := by
    intro P hP
    obtain ⟨b1, b2, b3, b4⟩ := hbd
    rcases hsg with ⟨e, g⟩ | ⟨e, g⟩
    · subst e
      simp only [Int.one_mul] at hP
      subst hP
      exact ⟨rfl, g, b1, b2, b3, b4⟩
    · subst e
      simp only [Int.neg_mul, Int.one_mul] at hP
      subst hP
      rw [ed] at g
      refine ⟨yw_red_neg g, ?_, ?_, ?_, ?_, ?_, ?_⟩ <;> dsimp only <;> omega
  obtain ⟨k1, k2, k3⟩ := K _ rfl
  unfold wY_tryPoint_25
  refine yw_met0 hQ hn hp hq hr ⟨vc, nm_e (yw_met1 hQ hn hp hq hr ⟨vc, nm_e (yw_met2 hQ hn hp hq hr ⟨vc, nm_e ⟨vc, nm_e ⟨vc, nm_e ⟨n + 1, ?_⟩⟩⟩⟩)⟩)⟩
  rw [nI_clamp (by omega), nu_mul, nu_mul, nu_mul, nu_mul]
  have hA := yw_put (p := (sg * (gm_cp (Q p) (Q q) (Q r)).1, sg * (gm_cp (Q p) (Q q) (Q r)).2.1, sg * (gm_cp (Q p) (Q q) (Q r)).2.2.1, sg * (gm_cp (Q p) (Q q) (Q r)).2.2.2)) hC
  have hA0 := fun (gx gy gz gb : Nat → Int32) (P : gm_V) (h : yw_A gx gy gz gb (c + 1) (ls_ins f P c)) => (fun k hk => by
    have := h k (by omega)
    rwa [ls_ins_lo hk] at this : yw_A gx gy gz gb c f)
  have hT0 : ∀ gt', (∀ k, k < c → gt' k = (upd gt c 0) k) → xw_T gt' c n Q f := fun gt' h k hk => by
    rw [h k hk, pk_un (by omega)]; exact hT k hk
  refine yw_t110 hQ hn hok hA hc hb k3 k2 (fun gt' g1 g2 => ?_) (fun gx gy gz gb gt' g1 g2 g3 g4 g5 => ?_) (fun gx gy gz gb gt' g1 g2 g3 g4 g5 => ?_) n 0 (upd gt c 0) (by omega) (fun _ _ => rfl)
    ⟨0, pk_us, nu_ms_0 _⟩ (fun i hi => by omega)
  · rw [k1] at g2
    exact h0 _ _ _ _ gt' (hA0 _ _ _ _ _ hA) (hT0 gt' g1) (fun z => absurd z g2)
  · rw [k1] at g4 g5
    exact h0 _ _ _ _ gt' (hA0 _ _ _ _ _ g4) (hT0 gt' g1) (fun _ => g5)
  · rw [k1] at g2 g3 g4 g5
    refine h1 _ _ _ _ gt' g3 g5 g4 (fun k hk => ?_)
    by_cases e : k = c
    · subst e; rw [ls_ins_eq]; exact g2
    · rw [ls_ins_lo (by omega)]; exact hT0 gt' g1 k (by omega)
theorem yw_try {post : SY → Prop} {p q r : Nat} (hQ : yw_A gu gv gw gd n Q) (hn : n ≤ 16) (hok : ∀ i, i < n → gm_ok (Q i)) (hC : yw_A gx gy gz gb c f) (hT : xw_T gt c n Q f) (hc : c ≤ 32)
    (hb : ∀ k, k < c → gm_bd (f k)) (hp : p < n) (hq : q < n) (hr : r < n)
    (h0 : ∀ gx gy gz gb gt, yw_A gx gy gz gb c f → xw_T gt c n Q f →
      (gm_dt (Q p) (Q q) (Q r) ≠ 0 → gm_In Q (fun s => s < n) (gm_pt (Q p) (Q q) (Q r)) → ∃ m, m < c ∧ f m = gm_pt (Q p) (Q q) (Q r)) → post (fn, nI n, nI c, nr, nb, gu, gv, gw, gd, gx, gy, gz, gb, gt, gf))
    (h1 : ∀ gx gy gz gb gt, gm_dt (Q p) (Q q) (Q r) ≠ 0 → gm_In Q (fun s => s < n) (gm_pt (Q p) (Q q) (Q r)) → (∀ m, m < c → f m ≠ gm_pt (Q p) (Q q) (Q r)) →
      yw_A gx gy gz gb (c + 1) (ls_ins f (gm_pt (Q p) (Q q) (Q r)) c) → xw_T gt (c + 1) n Q (ls_ins f (gm_pt (Q p) (Q q) (Q r)) c) → post (fn, nI n, nI (c + 1), nr, nb, gu, gv, gw, gd, gx, gy, gz, gb, gt, gf)) :
    wpY_tryPoint post (fn, nI n, nI c, nr, nb, gu, gv, gw, gd, gx, gy, gz, gb, gt, gf) (nI p) (nI q) (nI r) := by
  have hbd := gm_cp_bd (hok p hp) (hok q hq) (hok r hr)
  have ed : gm_dt (Q p) (Q q) (Q r) = (gm_cp (Q p) (Q q) (Q r)).2.2.2 := rfl
  obtain ⟨_, _, _, b4⟩ := hbd
  rw [← ed] at b4
  unfold wpY_tryPoint
  refine yw_det hQ hn hp hq hr (br_c (fun e => ?_) (fun e => ?_))
  · have z := (nu_eq0 (by omega) (by omega)).mp e
    exact h0 _ _ _ _ _ hC hT (fun k => absurd z k)
  · have z : gm_dt (Q p) (Q q) (Q r) ≠ 0 := fun k => e ((nu_eq0 (by omega) (by omega)).mpr k)
    refine br_c (fun g => ?_) (fun g => ?_)
    · have g' := (nu_ge0 (by omega) (by omega)).mp g
      rw [show (1 : Int32) = nu_I 1 by decide]
      exact yw_t25 (sg := 1) hQ hn hok hC hT hc hb hp hq hr z (.inl ⟨rfl, by omega⟩) (fun a b d e t u v w => h0 a b d e t u v (fun _ => w)) (fun a b d e t => h1 a b d e t z)
    · have g' : ¬ 0 ≤ gm_dt (Q p) (Q q) (Q r) := fun k => g ((nu_ge0 (by omega) (by omega)).mpr k)
      rw [show (-1 : Int32) = nu_I (-1) by decide]
      exact yw_t25 (sg := -1) hQ hn hok hC hT hc hb hp hq hr z (.inr ⟨rfl, by omega⟩) (fun a b d e t u v w => h0 a b d e t u v (fun _ => w)) (fun a b d e t => h1 a b d e t z)

/-- what is found when the triples before (pq, r) are done -/
def yw_FI (Q : Nat → gm_V) (n : Nat) (i r c : Nat) (f : Nat → gm_V) : Prop :=
  (∀ a, a < c → gm_Vt Q (fun p => p < n) (f a)) ∧ (∀ a b, a < b → b < c → f a ≠ f b) ∧
  ∀ a b d, a < b → b < d → d < n → (16 * a + b < i ∨ (16 * a + b = i ∧ d < r)) → gm_dt (Q a) (Q b) (Q d) ≠ 0 →
    gm_In Q (fun p => p < n) (gm_pt (Q a) (Q b) (Q d)) → ∃ m, m < c ∧ f m = gm_pt (Q a) (Q b) (Q d)
theorem yw_FI_c {i r : Nat} (hn : n ≤ 16) (h : yw_FI Q n i r c f) : c ≤ 32 := by
  have := gm_bound (Q := Q) (ac := fun p => p < n) (n := n) (fun i hi => hi) c f (fun a ha => (h.1 a ha).1) (fun a b hab hb z =>
    h.2.1 a b hab hb (gm_pr_eq z (h.1 a (by omega)).1.1 (h.1 b hb).1.1 (h.1 a (by omega)).2 (h.1 b hb).2))
  omega
theorem yw_f42 {post : SY → Prop} {J7 : Int32 → Int32 → Int32 → Int32 → (Nat → Int32) → (Nat → Int32) → (Nat → Int32) → (Nat → Int32) → (Nat → Int32) → (Nat → Int32) → (Nat → Int32) → (Nat → Int32) → (Nat → Int32) → (Nat → Int32) → (Nat → Int32) → (Nat → Int32) → Prop}
    (hQ : yw_A gu gv gw gd n Q) (hn : n ≤ 16) (hok : ∀ i, i < n → gm_ok (Q i)) {i p q : Nat} (hi : i = 16 * p + q) (hpq : p < q) (hq : q < n)
    (h : ∀ c f gx gy gz gb gt, yw_A gx gy gz gb c f → xw_T gt c n Q f → yw_FI Q n i n c f → J7 (nI (i + 1)) fn (nI n) (nI c) nr nb gu gv gw gd gx gy gz gb gt gf) :
    ∀ (d r c : Nat) (f : Nat → gm_V) (gx gy gz gb gt : Nat → Int32), r + d = n → q < r → yw_A gx gy gz gb c f → xw_T gt c n Q f → yw_FI Q n i r c f →
      wY_findCorners_42 post J7 (nI i) (nI p) (nI q) (d + 1) (nI r) fn (nI n) (nI c) nr nb gu gv gw gd gx gy gz gb gt gf := by
  intro d
  induction d with
  | zero =>
    intro r c f gx gy gz gb gt hr _ hC hT hF
    have : r = n := by omega
    subst this
    exact br_t (nI_le (Nat.le_refl _) (by omega)) (nm_r (nI_1 i) (h c f gx gy gz gb gt hC hT hF))
  | succ d ih =>
    intro r c f gx gy gz gb gt hr hqr hC hT hF
    have hc := yw_FI_c hn hF
    have hbd : ∀ a, a < c → gm_bd (f a) := fun a ha => gm_vt_bd (fun i hi => hok i hi) (hF.1 a ha)
    refine br_f (nI_ge (by omega) (by omega)) (yw_try hQ hn hok hC hT hc hbd (by omega) hq (by omega) (fun gx gy gz gb gt g1 g2 g3 => ?_) (fun gx gy gz gb gt g1 g2 g3 g4 g5 => ?_))
    · refine nm_r (nI_1 r) (ih (r + 1) c f _ _ _ _ _ (by omega) (by omega) g1 g2 ⟨hF.1, hF.2.1, fun a b d h1 h2 h3 h4 hd hin => ?_⟩)
      by_cases e : a = p ∧ b = q ∧ d = r
      · obtain ⟨e1, e2, e3⟩ := e
        subst e1 e2 e3
        exact g3 hd hin
      · exact hF.2.2 a b d h1 h2 h3 (by omega) hd hin
    · have hvt := gm_pt_vt (Q := Q) (ac := fun p => p < n) (i := p) (j := q) (k := r) (by omega) hq (by omega) g1 g2
      refine nm_r (nI_1 r) (ih (r + 1) (c + 1) _ _ _ _ _ _ (by omega) (by omega) g4 g5 ⟨fun a ha => ?_, fun a b hab hb => ?_, fun a b d h1 h2 h3 h4 hd hin => ?_⟩)
      · by_cases e : a = c
        · subst e; rw [ls_ins_eq]; exact hvt
        · rw [ls_ins_lo (by omega)]; exact hF.1 a (by omega)
      · rw [ls_ins_lo (j := a) (by omega)]
        by_cases e : b = c
        · subst e; rw [ls_ins_eq]; exact g3 a (by omega)
        · rw [ls_ins_lo (by omega)]; exact hF.2.1 a b hab (by omega)
      · by_cases e : a = p ∧ b = q ∧ d = r
        · obtain ⟨e1, e2, e3⟩ := e
          subst e1 e2 e3
          exact ⟨c, by omega, ls_ins_eq⟩
        · obtain ⟨m, hm, e⟩ := hF.2.2 a b d h1 h2 h3 (by omega) hd hin
          exact ⟨m, by omega, by rw [ls_ins_lo hm]; exact e⟩
theorem yw_f7 {post : SY → Prop} (hQ : yw_A gu gv gw gd n Q) (hn : n ≤ 16) (hok : ∀ i, i < n → gm_ok (Q i))
    (h : ∀ c f gx gy gz gb gt, yw_A gx gy gz gb c f → xw_T gt c n Q f → yw_FI Q n 256 0 c f → ∃ m, wY_findCorners_73 post m 0 fn (nI n) (nI c) nr nb gu gv gw gd gx gy gz gb gt gf) :
    ∀ (d i c : Nat) (f : Nat → gm_V) (gx gy gz gb gt : Nat → Int32), i + d = 256 → yw_A gx gy gz gb c f → xw_T gt c n Q f → yw_FI Q n i 0 c f →
      wY_findCorners_7 post (d + 1) (nI i) fn (nI n) (nI c) nr nb gu gv gw gd gx gy gz gb gt gf := by
  intro d
  induction d with
  | zero =>
    intro i c f gx gy gz gb gt hi hC hT hF
    have : i = 256 := by omega
    subst this
    exact br_t (by decide) (h c f gx gy gz gb gt hC hT hF)
  | succ d ih =>
    intro i c f gx gy gz gb gt hi hC hT hF
    refine br_f (nI_ge (b := 256) (by omega) (by decide)) ⟨by decide, nm_r (pk_div (d := 16) (by omega) (by omega) (by omega)) ⟨by decide, nm_r (pk_rem (d := 16) (by omega) (by omega) (by omega)) ?_⟩⟩
    have hdm := Nat.div_add_mod i 16
    have hm16 := Nat.mod_lt i (show 16 > 0 by omega)
    by_cases c1 : i % 16 ≤ i / 16
    · refine br_t (nI_le c1 (by omega)) (nm_r (nI_1 i) (ih (i + 1) c f _ _ _ _ _ (by omega) hC hT ⟨hF.1, hF.2.1, fun a b d h1 h2 h3 h4 => hF.2.2 a b d h1 h2 h3 (by omega)⟩))
    · refine br_f (nI_ge (by omega) (by omega)) ?_
      by_cases c2 : n ≤ i % 16
      · refine br_t (nI_le c2 (by omega)) (nm_r (nI_1 i) (ih (i + 1) c f _ _ _ _ _ (by omega) hC hT ⟨hF.1, hF.2.1, fun a b d h1 h2 h3 h4 => hF.2.2 a b d h1 h2 h3 (by omega)⟩))
      · refine br_f (nI_ge (by omega) (by omega)) (nm_r (nI_1 _) ⟨n - (i % 16 + 1) + 1, yw_f42 hQ hn hok (i := i) (by omega) (by omega) (by omega) (fun c f gx gy gz gb gt hC hT hF => ?_)
          (n - (i % 16 + 1)) (i % 16 + 1) c f _ _ _ _ _ (by omega) (by omega) hC hT ⟨hF.1, hF.2.1, fun a b d h1 h2 h3 h4 => hF.2.2 a b d h1 h2 h3 (by omega)⟩⟩)
        exact ih (i + 1) c f _ _ _ _ _ (by omega) hC hT ⟨hF.1, hF.2.1, fun a b d h1 h2 h3 h4 => hF.2.2 a b d h1 h2 h3 (by omega)⟩

theorem yw_before {post : Int32 → Prop} (hC : yw_A gx gy gz gb c f) (hc : c ≤ 40) {k l : Nat} (hk : k < c) (hl : l < c) (bk : gm_bd (f k)) (bl : gm_bd (f l))
    (h1 : gm_lt (f k) (f l) → post 1) (h0 : ¬ gm_lt (f k) (f l) → post 0) : wpY_before post (fn, fp, fk, nr, nb, gu, gv, gw, gd, gx, gy, gz, gb, gt, gf) (nI k) (nI l) := by
  have o0 := gm_o_bd bk bl (a := 0) (by omega)
  have o1 := gm_o_bd bk bl (a := 1) (by omega)
  have o2 := gm_o_bd bk bl (a := 2) (by omega)
  obtain ⟨k0, k1, k2, k3⟩ := hC k hk
  obtain ⟨l0, l1, l2, l3⟩ := hC l hl
  obtain ⟨a1, a2, a3, a4⟩ := bk
  obtain ⟨b1, b2, b3, b4⟩ := bl
  have vk := vp_in_nI (n := k) (N := 40) (by omega) (by omega)
  have vl := vp_in_nI (n := l) (N := 40) (by omega) (by omega)
  have G1 : gm_lt (f k) (f l) ↔ (gm_c (f k) 0 * (f l).2.2.2 - gm_c (f l) 0 * (f k).2.2.2 < 0 ∨ (gm_c (f k) 0 * (f l).2.2.2 - gm_c (f l) 0 * (f k).2.2.2 = 0 ∧
      (gm_c (f k) 1 * (f l).2.2.2 - gm_c (f l) 1 * (f k).2.2.2 < 0 ∨ (gm_c (f k) 1 * (f l).2.2.2 - gm_c (f l) 1 * (f k).2.2.2 = 0 ∧
        gm_c (f k) 2 * (f l).2.2.2 - gm_c (f l) 2 * (f k).2.2.2 < 0)))) := by
    simp only [gm_lt, gm_c]; omega
  unfold wpY_before
  dsimp only
  rw [nI_clamp (by omega), nI_clamp (by omega), k0, k1, k2, k3, l0, l1, l2, l3, nu_64 (by omega) (by omega), nu_64 (by omega) (by omega), nu_64 (by omega) (by omega), nu_64 (by omega) (by omega),
    nu_64 (by omega) (by omega), nu_64 (by omega) (by omega), nu_64 (by omega) (by omega), nu_64 (by omega) (by omega), nu_Lmul, nu_Lmul, nu_Lmul, nu_Lmul, nu_Lmul, nu_Lmul, nu_Lsub, nu_Lsub]
  have q1 := nu_pb (A := 5760) (B := 384) a3.1 a3.2 b4.1 b4.2
  have q2 := nu_pb (A := 5760) (B := 384) b3.1 b3.2 a4.1 a4.2
  simp only [gm_c] at *
  refine ⟨vk, vl, vl, vk, nm_e (br_c (fun e0 => ⟨vk, vl, vl, vk, nm_e (br_c (fun e1 => ⟨vk, vl, vl, vk, br_c (fun e2 => ?_) (fun e2 => ?_)⟩) (fun e1 => br_c (fun e2 => ?_) (fun e2 => ?_)))⟩)
    (fun e0 => br_c (fun e2 => ?_) (fun e2 => ?_)))⟩
  · have z0 := (nu_Leq0 (by omega) (by omega)).mp e0
    have z1 := (nu_Leq0 (by omega) (by omega)).mp e1
    have z2 := (nu_Lle (by omega) (by omega) (by omega) (by omega)).mp e2
    exact h0 (fun g => by have := G1.mp g; omega)
  · have z0 := (nu_Leq0 (by omega) (by omega)).mp e0
    have z1 := (nu_Leq0 (by omega) (by omega)).mp e1
    have z2 := (not_congr (nu_Lle (by omega) (by omega) (by omega) (by omega))).mp e2
    exact h1 (G1.mpr (by omega))
  · have z0 := (nu_Leq0 (by omega) (by omega)).mp e0
    have z1 := (not_congr (nu_Leq0 (by omega) (by omega))).mp e1
    have z2 := (nu_Lge0 (by omega) (by omega)).mp e2
    exact h0 (fun g => by have := G1.mp g; omega)
  · have z0 := (nu_Leq0 (by omega) (by omega)).mp e0
    have z2 := (not_congr (nu_Lge0 (by omega) (by omega))).mp e2
    exact h1 (G1.mpr (by omega))
  · have z0 := (not_congr (nu_Leq0 (by omega) (by omega))).mp e0
    have z2 := (nu_Lge0 (by omega) (by omega)).mp e2
    exact h0 (fun g => by have := G1.mp g; omega)
  · have z2 := (not_congr (nu_Lge0 (by omega) (by omega))).mp e2
    exact h1 (G1.mpr (by omega))
theorem yw_sw1 {a : Nat → Int32} {k l : Nat} (hkl : k ≠ l) (j : Nat) : upd (upd a k (a l)) l (a k) j = if j = k then a l else if j = l then a k else a j := by
  by_cases e1 : j = l
  · subst e1
    rw [pk_us, if_neg (fun h => hkl h.symm), if_pos rfl]
  · rw [pk_un e1]
    by_cases e2 : j = k
    · subst e2; rw [pk_us, if_pos rfl]
    · rw [pk_un e2, if_neg e2, if_neg e1]
theorem yw_exch {post : SY → Prop} (hC : yw_A gx gy gz gb c f) (hT : xw_T gt c n Q f) (hc : c ≤ 40) {k l : Nat} (hk : k < c) (hl : l < c) (hkl : k ≠ l)
    (h : ∀ gx gy gz gb gt, yw_A gx gy gz gb c (ls_sw f k l) → xw_T gt c n Q (ls_sw f k l) → post (fn, fp, fk, nr, nb, gu, gv, gw, gd, gx, gy, gz, gb, gt, gf)) : wpY_exchange post (fn, fp, fk, nr, nb, gu, gv, gw, gd, gx, gy, gz, gb, gt, gf) (nI k) (nI l) := by
  have vk := vp_in_nI (n := k) (N := 40) (by omega) (by omega)
  have vl := vp_in_nI (n := l) (N := 40) (by omega) (by omega)
  unfold wpY_exchange
  dsimp only
  rw [nI_clamp (by omega), nI_clamp (by omega)]
  refine ⟨vk, nm_e ⟨vl, vk, nm_e ⟨vl, nm_e ⟨vk, nm_e ⟨vl, vk, nm_e ⟨vl, nm_e ⟨vk, nm_e ⟨vl, vk, nm_e ⟨vl, nm_e ⟨vk, nm_e ⟨vl, vk, nm_e ⟨vl, nm_e ⟨vk, nm_e ⟨vl, vk, nm_e ⟨vl, nm_e ?_⟩⟩⟩⟩⟩⟩⟩⟩⟩⟩⟩⟩⟩⟩⟩
  refine h _ _ _ _ _ (fun j hj => ?_) (fun j hj => ?_)
  · rw [yw_sw1 hkl, yw_sw1 hkl, yw_sw1 hkl, yw_sw1 hkl]
    unfold ls_sw
    by_cases e1 : j = k
    · simp only [if_pos e1]; exact hC l hl
    · simp only [if_neg e1]
      by_cases e2 : j = l
      · simp only [if_pos e2]; exact hC k hk
      · simp only [if_neg e2]; exact hC j hj
  · rw [yw_sw1 hkl]
    unfold ls_sw
    by_cases e1 : j = k
    · simp only [if_pos e1]; exact hT l hl
    · simp only [if_neg e1]
      by_cases e2 : j = l
      · simp only [if_pos e2]; exact hT k hk
      · simp only [if_neg e2]; exact hT j hj
end
end
section
/-! The reference sorts its list -/
section
variable {fn fp fk : Int32} {nr nb gu gv gw gd gx gy gz gb gt gf : Nat → Int32} {Q f : Nat → gm_V} {n c : Nat}
def yw_SI (V : gm_V → Prop) (j k c : Nat) (g : Nat → gm_V) : Prop :=
  (∀ a, a < c → V (g a)) ∧ (∀ a b, a < b → b < c → ¬ gm_pr (g a) (g b)) ∧ (∀ p, V p → ∃ a, a < c ∧ g a = p) ∧
  (∀ a b, a < b → b < c → (a < j ∨ (a = j ∧ b < k)) → gm_lt (g a) (g b))
theorem yw_sw_ex {g : Nat → gm_V} {j k c a : Nat} (hj : j < c) (hk : k < c) (ha : a < c) : ∃ b, b < c ∧ ls_sw g j k a = g b := by
  unfold ls_sw
  by_cases e : a = j
  · exact ⟨k, hk, by rw [if_pos e]⟩
  · rw [if_neg e]
    by_cases e2 : a = k
    · exact ⟨j, hj, by rw [if_pos e2]⟩
    · exact ⟨a, ha, by rw [if_neg e2]⟩
theorem yw_sw_j {g : Nat → gm_V} {j k : Nat} : ls_sw g j k j = g k := if_pos rfl
theorem yw_sw_k {g : Nat → gm_V} {j k : Nat} : ls_sw g j k k = g j := by
  unfold ls_sw
  by_cases e : k = j
  · subst e; rw [if_pos rfl]
  · rw [if_neg e, if_pos rfl]
theorem yw_sw_o {g : Nat → gm_V} {j k a : Nat} (h1 : a ≠ j) (h2 : a ≠ k) : ls_sw g j k a = g a := by
  unfold ls_sw
  rw [if_neg h1, if_neg h2]
theorem yw_SI_sw {V : gm_V → Prop} {j k : Nat} {g : Nat → gm_V} (hV : ∀ p, V p → 0 < p.2.2.2) (hjk : j < k) (hk : k < c) (h : yw_SI V j k c g) (hl : gm_lt (g k) (g j)) : yw_SI V j (k + 1) c (ls_sw g j k) := by
  obtain ⟨h1, h2, h3, h4⟩ := h
  have h2' : ∀ a b, a ≠ b → a < c → b < c → ¬ gm_pr (g a) (g b) := by
    intro a b hab ha hb z
    rcases Nat.lt_or_gt_of_ne hab with k | k
    · exact h2 a b k hb z
    · exact h2 b a k ha (gm_pr_symm z)
  refine ⟨fun a ha => ?_, fun a b hab hb => ?_, fun p hp => ?_, fun a b hab hb hc => ?_⟩
  · obtain ⟨b, hb, e⟩ := yw_sw_ex (g := g) (show j < c by omega) hk ha
    rw [e]; exact h1 b hb
  · by_cases a1 : a = j
    · subst a1
      rw [yw_sw_j]
      by_cases b1 : b = k
      · subst b1; rw [yw_sw_k]; exact h2' _ _ (by omega) (by omega) (by omega)
      · rw [yw_sw_o (by omega) b1]; exact h2' _ _ (by omega) (by omega) (by omega)
    · by_cases a2 : a = k
      · subst a2
        rw [yw_sw_k, yw_sw_o (by omega) (by omega)]; exact h2' _ _ (by omega) (by omega) (by omega)
      · rw [yw_sw_o a1 a2]
        by_cases b1 : b = j
        · subst b1; rw [yw_sw_j]; exact h2' _ _ (by omega) (by omega) (by omega)
        · by_cases b2 : b = k
          · subst b2; rw [yw_sw_k]; exact h2' _ _ (by omega) (by omega) (by omega)
          · rw [yw_sw_o b1 b2]; exact h2' _ _ (by omega) (by omega) (by omega)
  · obtain ⟨a, ha, e⟩ := h3 p hp
    by_cases a1 : a = j
    · subst a1; exact ⟨k, hk, by rw [yw_sw_k]; exact e⟩
    · by_cases a2 : a = k
      · subst a2; exact ⟨j, by omega, by rw [yw_sw_j]; exact e⟩
      · exact ⟨a, ha, by rw [yw_sw_o a1 a2]; exact e⟩
  · rcases hc with hc | ⟨hc, hb2⟩
    · rw [yw_sw_o (by omega) (by omega)]
      by_cases b1 : b = j
      · subst b1; rw [yw_sw_j]; exact h4 a k (by omega) hk (.inl hc)
      · by_cases b2 : b = k
        · subst b2; rw [yw_sw_k]; exact h4 a j (by omega) (by omega) (.inl hc)
        · rw [yw_sw_o b1 b2]; exact h4 a b hab hb (.inl hc)
    · subst hc
      rw [yw_sw_j]
      by_cases b2 : b = k
      · subst b2; rw [yw_sw_k]; exact hl
      · rw [yw_sw_o (by omega) b2]
        exact gm_lt_trans (hV _ (h1 k hk)) (hV _ (h1 a (by omega))) (hV _ (h1 b hb)) hl (h4 a b hab hb (.inr ⟨rfl, by omega⟩))
theorem yw_SI_no {V : gm_V → Prop} {j k : Nat} {g : Nat → gm_V} (hjk : j < k) (hk : k < c) (h : yw_SI V j k c g) (hl : ¬ gm_lt (g k) (g j)) : yw_SI V j (k + 1) c g := by
  obtain ⟨h1, h2, h3, h4⟩ := h
  refine ⟨h1, h2, h3, fun a b hab hb hc => ?_⟩
  by_cases e : a = j ∧ b = k
  · obtain ⟨e1, e2⟩ := e
    subst e1 e2
    apply Classical.byContradiction
    intro z
    exact h2 a b hab hb (gm_tri z hl)
  · exact h4 a b hab hb (by omega)
theorem yw_f85 {post : SY → Prop} {V : gm_V → Prop} {J : Int32 → Int32 → Int32 → Int32 → (Nat → Int32) → (Nat → Int32) → (Nat → Int32) → (Nat → Int32) → (Nat → Int32) → (Nat → Int32) → (Nat → Int32) → (Nat → Int32) → (Nat → Int32) → (Nat → Int32) → (Nat → Int32) → (Nat → Int32) → Prop}
    (hV : ∀ p, V p → 0 < p.2.2.2) (hb : ∀ p, V p → gm_bd p) (hc : c ≤ 32) {j : Nat} (hj : j < c)
    (h : ∀ f gx gy gz gb gt, yw_A gx gy gz gb c f → xw_T gt c n Q f → yw_SI V j c c f → J (nI (j + 1)) fn (nI n) (nI c) nr nb gu gv gw gd gx gy gz gb gt gf) :
    ∀ (d k : Nat) (f : Nat → gm_V) (gx gy gz gb gt : Nat → Int32), k + d = c → j < k → yw_A gx gy gz gb c f → xw_T gt c n Q f → yw_SI V j k c f →
      wY_findCorners_85 post J (nI j) (d + 1) (nI k) fn (nI n) (nI c) nr nb gu gv gw gd gx gy gz gb gt gf := by
  intro d
  induction d with
  | zero =>
    intro k f gx gy gz gb gt hk _ hC hT hS
    have : k = c := by omega
    subst this
    exact br_t (nI_le (Nat.le_refl _) (by omega)) (nm_r (nI_1 j) (h f _ _ _ _ _ hC hT hS))
  | succ d ih =>
    intro k f gx gy gz gb gt hk hjk hC hT hS
    refine br_f (nI_ge (by omega) (by omega)) (yw_before hC (by omega) (by omega) hj (hb _ (hS.1 k (by omega))) (hb _ (hS.1 j hj)) (fun g => ?_) (fun g => ?_))
    · refine br_f (by decide) (yw_exch hC hT (by omega) hj (by omega) (by omega) (fun gx gy gz gb gt g1 g2 => ?_))
      exact nm_r (nI_1 k) (ih (k + 1) _ _ _ _ _ _ (by omega) (by omega) g1 g2 (yw_SI_sw hV hjk (by omega) hS g))
    · exact br_t rfl (nm_r (nI_1 k) (ih (k + 1) f _ _ _ _ _ (by omega) (by omega) hC hT (yw_SI_no hjk (by omega) hS g)))
theorem yw_f73 {post : SY → Prop} {V : gm_V → Prop} (hV : ∀ p, V p → 0 < p.2.2.2) (hb : ∀ p, V p → gm_bd p) (hc : c ≤ 32)
    (h : ∀ f gx gy gz gb gt, yw_A gx gy gz gb c f → xw_T gt c n Q f → ls_L V c f → post (fn, nI n, nI c, nr, nb, gu, gv, gw, gd, gx, gy, gz, gb, gt, gf)) :
    ∀ (d j : Nat) (f : Nat → gm_V) (gx gy gz gb gt : Nat → Int32), j + d = c → yw_A gx gy gz gb c f → xw_T gt c n Q f → yw_SI V j 0 c f →
      wY_findCorners_73 post (d + 1) (nI j) fn (nI n) (nI c) nr nb gu gv gw gd gx gy gz gb gt gf := by
  intro d
  induction d with
  | zero =>
    intro j f gx gy gz gb gt hj hC hT hS
    have : j = c := by omega
    subst this
    exact br_t (nI_le (Nat.le_refl _) (by omega)) (h f _ _ _ _ _ hC hT ⟨hS.1, fun a b hab hb => hS.2.2.2 a b hab hb (.inl (by omega)), hS.2.2.1⟩)
  | succ d ih =>
    intro j f gx gy gz gb gt hj hC hT hS
    refine br_f (nI_ge (by omega) (by omega)) (nm_r (nI_1 j) ⟨c - (j + 1) + 1, yw_f85 hV hb hc (by omega) (fun f gx gy gz gb gt g1 g2 g3 => ?_) (c - (j + 1)) (j + 1) f _ _ _ _ _ (by omega) (by omega) hC hT
      ⟨hS.1, hS.2.1, hS.2.2.1, fun a b hab hb hc => hS.2.2.2 a b hab hb (by omega)⟩⟩)
    exact ih (j + 1) f _ _ _ _ _ (by omega) g1 g2 ⟨g3.1, g3.2.1, g3.2.2.1, fun a b hab hb hc => g3.2.2.2 a b hab hb (by omega)⟩
theorem yw_fc {post : SY → Prop} (hQ : yw_A gu gv gw gd n Q) (hn : n ≤ 16) (hok : ∀ i, i < n → gm_ok (Q i))
    (h : ∀ c f gx gy gz gb gt, c ≤ 32 → ls_L (gm_Vt Q (fun p => p < n)) c f → yw_A gx gy gz gb c f → xw_T gt c n Q f → post (fn, nI n, nI c, nr, nb, gu, gv, gw, gd, gx, gy, gz, gb, gt, gf)) :
    wpY_findCorners post (fn, nI n, fk, nr, nb, gu, gv, gw, gd, gx, gy, gz, gb, gt, gf) := by
  refine ⟨257, yw_f7 hQ hn hok (fun c f gx gy gz gb gt hC hT hF => ?_) 256 0 0 (fun _ => (0, 0, 0, 0)) _ _ _ _ _ (by omega) (fun k hk => by omega) (fun k hk => by omega)
    ⟨fun a ha => by omega, fun a b _ hb => by omega, fun a b d _ _ _ h4 => by omega⟩⟩
  have hc := yw_FI_c hn hF
  refine ⟨c + 1, yw_f73 (V := gm_Vt Q (fun p => p < n)) (fun p hp => hp.1.1) (fun p hp => gm_vt_bd (fun i hi => hok i hi) hp) hc (fun f gx gy gz gb gt g1 g2 g3 => h c f _ _ _ _ _ hc g3 g1 g2)
    c 0 f _ _ _ _ _ (by omega) hC hT ⟨hF.1, fun a b hab hb z => ?_, fun p hp => ?_, fun a b _ _ hc => by omega⟩⟩
  · exact hF.2.1 a b hab hb (gm_pr_eq z (hF.1 a (by omega)).1.1 (hF.1 b hb).1.1 (hF.1 a (by omega)).2 (hF.1 b hb).2)
  · obtain ⟨a, b, d, h1, h2, ha, hb, hd, hdt, e⟩ := gm_vt_pt hp
    obtain ⟨m, hm, e2⟩ := hF.2.2 a b d h1 h2 hd (by omega) hdt (e ▸ hp.1.2.1)
    exact ⟨m, hm, e2.trans e.symm⟩
end
end
section
/-! The planes of both sides, from the cuts -/
section
/-- a cut's plane, from its packed normal -/
def rl_ct (m : Nat) (d : Int) : gm_V := ((m % 9 : Nat) - 4, (m / 9 % 9 : Nat) - 4, (m / 81 : Nat) - 4, d)
/-- a plane across an axis -/
def rl_ax (a : Nat) (s d : Int) : gm_V := (if a = 0 then s else 0, if a = 1 then s else 0, if a = 2 then s else 0, d)
def rl_Q (M : Nat → Nat) (D : Nat → Int) (i : Nat) : gm_V := if i < 6 then gm_bx i else rl_ct (M (i - 6)) (D (i - 6))
/-- the same without plane l -/
def rl_wo (Q : Nat → gm_V) (l : Nat) : Nat → gm_V := fun i => if i < l then Q i else Q (i + 1)
/-- cuts that are as the document says -/
def rl_ok (n : Nat) (M : Nat → Nat) (D : Nat → Int) : Prop := n ≤ 8 ∧ ∀ i, i < n → M i ≤ 728 ∧ M i ≠ 364 ∧ -60 ≤ D i ∧ D i ≤ 60
theorem rl_bx0 : ∀ a, a < 3 → gm_bx (2 * a) = rl_ax a 1 8 ∧ gm_bx (2 * a + 1) = rl_ax a (-1) 8 := by decide
theorem rl_bx_ok : ∀ i, i < 6 → gm_ok (gm_bx i) ∧ rk_nz (gm_bx i) := by
  intro i hi
  have : i = 0 ∨ i = 1 ∨ i = 2 ∨ i = 3 ∨ i = 4 ∨ i = 5 := by omega
  rcases this with e | e | e | e | e | e <;> subst e <;> simp [gm_ok, rk_nz, gm_bx]
theorem rl_ct_ok {m : Nat} {d : Int} (h : m ≤ 728) (h1 : -60 ≤ d) (h2 : d ≤ 60) : gm_ok (rl_ct m d) := by
  simp only [gm_ok, rl_ct]
  omega
theorem rl_ct_nz {m : Nat} {d : Int} (h : m ≤ 728) (h1 : m ≠ 364) : rk_nz (rl_ct m d) := by
  simp only [rk_nz, rl_ct]
  omega
theorem rl_Q_ok {n : Nat} {M : Nat → Nat} {D : Nat → Int} (h : rl_ok n M D) : ∀ i, i < 6 + n → gm_ok (rl_Q M D i) ∧ rk_nz (rl_Q M D i) := by
  intro i hi
  unfold rl_Q
  by_cases e : i < 6
  · rw [if_pos e]; exact rl_bx_ok i e
  · rw [if_neg e]
    obtain ⟨a, b, c, d⟩ := h.2 (i - 6) (by omega)
    exact ⟨rl_ct_ok a c d, rl_ct_nz a b⟩

variable {fn fp fk : Int32} {nr nb gu gv gw gd gx gy gz gb gt gf : Nat → Int32} {Q f : Nat → gm_V} {n c m : Nat} {p : gm_V}
theorem yw_add {post : SY → Prop} (hm : m < 16) (hA : yw_A gu gv gw gd m Q) (hp : Q m = p)
    (h : ∀ gu gv gw gd, yw_A gu gv gw gd (m + 1) Q → post (fn, nI (m + 1), fk, nr, nb, gu, gv, gw, gd, gx, gy, gz, gb, gt, gf)) : wpY_addPlane post (fn, nI m, fk, nr, nb, gu, gv, gw, gd, gx, gy, gz, gb, gt, gf) (nu_I p.1) (nu_I p.2.1) (nu_I p.2.2.1) (nu_I p.2.2.2) := by
  have v := vp_in_nI (n := m) (N := 16) hm (by omega)
  unfold wpY_addPlane
  dsimp only
  rw [nI_clamp (by omega)]
  refine ⟨v, nm_e ⟨v, nm_e ⟨v, nm_e ⟨v, nm_e (nm_r (nI_1 m) (h _ _ _ _ ?_))⟩⟩⟩⟩
  refine yw_A_cg (yw_put hA) (fun k hk => ?_)
  by_cases e : k = m
  · subst e; rw [ls_ins_eq]; exact hp.symm
  · exact ls_ins_lo (by omega)
theorem yw_p9 {M : Nat} (hM : M ≤ 728) : (nI M - nI M / 9 * 9) - 4 = nu_I ((M % 9 : Nat) - 4) := by
  rw [show (9 : Int32) = nI 9 from rfl, pk_rem (by omega) (by omega) (by omega), show (4 : Int32) = nu_I 4 by decide, nu_nI, nu_sub]
theorem yw_p99 {M : Nat} (hM : M ≤ 728) : ((nI M / 9) - (nI M / 9) / 9 * 9) - 4 = nu_I ((M / 9 % 9 : Nat) - 4) := by
  rw [show (9 : Int32) = nI 9 from rfl, pk_div (by omega) (by omega) (by omega), pk_rem (by omega) (by omega) (by omega), show (4 : Int32) = nu_I 4 by decide, nu_nI, nu_sub]
theorem yw_p81 {M : Nat} (hM : M ≤ 728) : (nI M / 81) - 4 = nu_I ((M / 81 : Nat) - 4) := by
  rw [show (81 : Int32) = nI 81 from rfl, pk_div (by omega) (by omega) (by omega), show (4 : Int32) = nu_I 4 by decide, nu_nI, nu_sub]
theorem yw_addN {post : SY → Prop} {M : Nat} {D : Int} (hM : M ≤ 728) (hm : m < 16) (hA : yw_A gu gv gw gd m Q) (hp : Q m = rl_ct M D)
    (h : ∀ gu gv gw gd, yw_A gu gv gw gd (m + 1) Q → post (fn, nI (m + 1), fk, nr, nb, gu, gv, gw, gd, gx, gy, gz, gb, gt, gf)) : wpY_addNormal post (fn, nI m, fk, nr, nb, gu, gv, gw, gd, gx, gy, gz, gb, gt, gf) (nI M) (nu_I D) :=
  ⟨by decide, nm_r (yw_p9 hM) ⟨by decide, by decide, nm_r (yw_p99 hM) ⟨by decide, nm_r (yw_p81 hM) (yw_add (p := rl_ct M D) hm hA hp h)⟩⟩⟩
theorem yw_addA {post : SY → Prop} {a : Nat} {s d : Int} {s' d' : Int32} (es : s' = nu_I s) (ed : d' = nu_I d) (ha : a < 3) (hm : m < 16) (hA : yw_A gu gv gw gd m Q) (hp : Q m = rl_ax a s d)
    (h : ∀ gu gv gw gd, yw_A gu gv gw gd (m + 1) Q → post (fn, nI (m + 1), fk, nr, nb, gu, gv, gw, gd, gx, gy, gz, gb, gt, gf)) : wpY_addAxis post (fn, nI m, fk, nr, nb, gu, gv, gw, gd, gx, gy, gz, gb, gt, gf) (nI a) s' d' := by
  subst es ed
  have H := yw_add (p := rl_ax a s d) (fn := fn) (fk := fk) (nr := nr) (nb := nb) (gx := gx) (gy := gy) (gz := gz) (gb := gb) (gt := gt) (gf := gf) hm hA hp h
  have : a = 0 ∨ a = 1 ∨ a = 2 := by omega
  rcases this with e | e | e
  · subst e
    exact br_t rfl (br_f (by decide) (br_f (by decide) H))
  · subst e
    exact br_f (by decide) (br_t rfl (br_f (by decide) H))
  · subst e
    exact br_f (by decide) (br_f (by decide) (br_t rfl H))

variable {M : Nat → Nat} {D : Nat → Int}
/-- cuts in the reference's own arrays -/
def yw_N (nr nb : Nat → Int32) (n : Nat) (M : Nat → Nat) (D : Nat → Int) : Prop := ∀ i, i < n → nr i = nI (M i) ∧ nb i = nu_I (D i)
/-- all cuts -/
theorem yw_s36 {post : SY → Prop} (hk : rl_ok n M D) (hN : yw_N nr nb n M D)
    (h : ∀ gu gv gw gd, yw_A gu gv gw gd (6 + n) (rl_Q M D) → post (nI n, nI (6 + n), fk, nr, nb, gu, gv, gw, gd, gx, gy, gz, gb, gt, gf)) :
    ∀ (d i : Nat) (gu gv gw gd : Nat → Int32), i + d = n → yw_A gu gv gw gd (6 + i) (rl_Q M D) → wY_setPlanes_36 post (-1) (d + 1) (nI i) (nI n) (nI (6 + i)) fk nr nb gu gv gw gd gx gy gz gb gt gf := by
  have hn8 := hk.1
  intro d
  induction d with
  | zero =>
    intro i gu gv gw gd hi hA
    have : i = n := by omega
    subst this
    exact br_t (nI_le (Nat.le_refl _) (by omega)) (h _ _ _ _ hA)
  | succ d ih =>
    intro i gu gv gw gd hi hA
    have v := vp_in_nI (n := i) (N := 8) (by omega) (by omega)
    have hne : ¬ nI i = -1 := fun e => absurd (e ▸ nI_pos' (n := i) (by omega) : (0 : Int32) ≤ -1) (by decide)
    obtain ⟨a, b⟩ := hN i (by omega)
    obtain ⟨m1, m2, m3, m4⟩ := hk.2 i (by omega)
    refine br_f (nI_ge (by omega) (by omega)) (br_f hne ⟨v, v, ?_⟩)
    rw [nI_clamp (by omega), a, b]
    refine yw_addN m1 (by omega) hA ?_ (fun gu gv gw gd g => nm_r (nI_1 i) (ih (i + 1) _ _ _ _ (by omega) g))
    unfold rl_Q
    rw [if_neg (by omega), show 6 + i - 6 = i by omega]
/-- all cuts but one -/
theorem yw_s36l {post : SY → Prop} {l : Nat} (hl : l < n) (hk : rl_ok n M D) (hN : yw_N nr nb n M D)
    (h : ∀ gu gv gw gd, yw_A gu gv gw gd (5 + n) (rl_wo (rl_Q M D) (6 + l)) → post (nI n, nI (5 + n), fk, nr, nb, gu, gv, gw, gd, gx, gy, gz, gb, gt, gf)) :
    ∀ (d i j : Nat) (gu gv gw gd : Nat → Int32), i + d = n → (i ≤ l ∧ j = 6 + i ∨ l < i ∧ j = 5 + i) → yw_A gu gv gw gd j (rl_wo (rl_Q M D) (6 + l)) → wY_setPlanes_36 post (nI l) (d + 1) (nI i) (nI n) (nI j) fk nr nb gu gv gw gd gx gy gz gb gt gf := by
  have hn8 := hk.1
  intro d
  induction d with
  | zero =>
    intro i j gu gv gw gd hi hj hA
    have : i = n := by omega
    subst this
    have : j = 5 + i := by omega
    subst this
    exact br_t (nI_le (Nat.le_refl _) (by omega)) (h _ _ _ _ hA)
  | succ d ih =>
    intro i j gu gv gw gd hi hj hA
    have v := vp_in_nI (n := i) (N := 8) (by omega) (by omega)
    obtain ⟨a, b⟩ := hN i (by omega)
    obtain ⟨m1, m2, m3, m4⟩ := hk.2 i (by omega)
    refine br_f (nI_ge (by omega) (by omega)) ?_
    by_cases e : i = l
    · subst e
      refine br_t rfl (nm_r (nI_1 i) (ih (i + 1) j _ _ _ _ (by omega) (by omega) hA))
    · refine br_f (fun z => e ((nI_eq (by omega) (by omega)).mp z)) ⟨v, v, ?_⟩
      rw [nI_clamp (by omega), a, b]
      refine yw_addN m1 (by omega) hA ?_ (fun gu gv gw gd g => nm_r (nI_1 i) (ih (i + 1) (j + 1) _ _ _ _ (by omega) (by omega) g))
      unfold rl_wo rl_Q
      by_cases e2 : i < l
      · rw [if_pos (by omega), if_neg (by omega), show j - 6 = i by omega]
      · rw [if_neg (by omega), if_neg (by omega), show j + 1 - 6 = i by omega]
theorem yw_s7 {post : SY → Prop} {lf : Int32} (hQ : ∀ i, i < 6 → Q i = gm_bx i)
    (h : ∀ gu gv gw gd, yw_A gu gv gw gd 6 Q → ∃ t, wY_setPlanes_36 post lf t 0 fn (nI 6) fk nr nb gu gv gw gd gx gy gz gb gt gf) :
    ∀ (d a : Nat) (gu gv gw gd : Nat → Int32), a + d = 3 → yw_A gu gv gw gd (2 * a) Q → wY_setPlanes_7 post lf (d + 1) (nI a) fn (nI (2 * a)) fk nr nb gu gv gw gd gx gy gz gb gt gf := by
  intro d
  induction d with
  | zero =>
    intro a gu gv gw gd ha hA
    have : a = 3 := by omega
    subst this
    exact br_t (by decide) (h _ _ _ _ hA)
  | succ d ih =>
    intro a gu gv gw gd ha hA
    have b := rl_bx0 a (by omega)
    refine br_f (nI_ge (b := 3) (by omega) (by decide)) ?_
    refine yw_addA (s := 1) (d := 8) (by decide) (by decide) (by omega) (by omega) hA ((hQ _ (by omega)).trans b.1) (fun gu gv gw gd g1 => ?_)
    refine yw_addA (s := -1) (d := 8) (by decide) (by decide) (by omega) (by omega) g1 ((hQ _ (by omega)).trans b.2) (fun gu gv gw gd g2 => ?_)
    exact nm_r (nI_1 a) (ih (a + 1) _ _ _ _ (by omega) g2)
theorem rl_Q6 : ∀ i, i < 6 → rl_Q M D i = gm_bx i := fun i hi => if_pos hi
theorem rl_wo6 {l : Nat} : ∀ i, i < 6 → rl_wo (rl_Q M D) (6 + l) i = gm_bx i := fun i hi => by
  unfold rl_wo
  rw [if_pos (by omega)]
  exact if_pos hi
theorem yw_set {post : SY → Prop} (hk : rl_ok n M D) (hN : yw_N nr nb n M D)
    (h : ∀ gu gv gw gd, yw_A gu gv gw gd (6 + n) (rl_Q M D) → post (nI n, nI (6 + n), fk, nr, nb, gu, gv, gw, gd, gx, gy, gz, gb, gt, gf)) : wpY_setPlanes post (nI n, fp, fk, nr, nb, gu, gv, gw, gd, gx, gy, gz, gb, gt, gf) (-1) :=
  ⟨4, yw_s7 rl_Q6 (fun gu gv gw gd g => ⟨n + 1, yw_s36 hk hN h n 0 _ _ _ _ (by omega) g⟩) 3 0 _ _ _ _ (by omega) (fun k hk => by omega)⟩
theorem yw_setl {post : SY → Prop} {l : Nat} (hl : l < n) (hk : rl_ok n M D) (hN : yw_N nr nb n M D)
    (h : ∀ gu gv gw gd, yw_A gu gv gw gd (5 + n) (rl_wo (rl_Q M D) (6 + l)) → post (nI n, nI (5 + n), fk, nr, nb, gu, gv, gw, gd, gx, gy, gz, gb, gt, gf)) : wpY_setPlanes post (nI n, fp, fk, nr, nb, gu, gv, gw, gd, gx, gy, gz, gb, gt, gf) (nI l) :=
  ⟨4, yw_s7 rl_wo6 (fun gu gv gw gd g => ⟨n + 1, yw_s36l hl hk hN h n 0 6 _ _ _ _ (by omega) (by omega) g⟩) 3 0 _ _ _ _ (by omega) (fun k hk => by omega)⟩
theorem yw_find {post : SY → Prop} (hk : rl_ok n M D) (hN : yw_N nr nb n M D)
    (h : ∀ c f gu gv gw gd gx gy gz gb gt, c ≤ 32 → ls_L (gm_Vt (rl_Q M D) (fun p => p < 6 + n)) c f → yw_A gu gv gw gd (6 + n) (rl_Q M D) → yw_A gx gy gz gb c f → xw_T gt c (6 + n) (rl_Q M D) f →
      post (nI n, nI (6 + n), nI c, nr, nb, gu, gv, gw, gd, gx, gy, gz, gb, gt, gf)) : wpY_find post (nI n, fp, fk, nr, nb, gu, gv, gw, gd, gx, gy, gz, gb, gt, gf) := by
  have hn8 := hk.1
  unfold wpY_find
  refine yw_set hk hN (fun gu gv gw gd g => yw_fc g (by omega) (fun i hi => (rl_Q_ok hk i hi).1) (fun c f gx gy gz gb gt a b d e => h c f _ _ _ _ _ _ _ _ _ a b g d e))
end
end
section
/-! The relation, the constructors, cut and drop -/
section
variable {fc ff : Int32} {pl co tt st : Nat → Int32} {Q f : Nat → gm_V} {n c : Nat}
variable {fn fp fk : Int32} {nr nb gu gv gw gd gx gy gz gb gt gf : Nat → Int32}
theorem xw_ix {post : Int32 → Prop} {v : Int32} {c : Nat} (hc : c < 2 ^ 31) (h1 : ∀ k, k < c → v = nI k → post 1) (h0 : (¬ ∃ k, k < c ∧ v = nI k) → post 0) :
    (v < 0 → post 0) ∧ (¬ v < 0 → (nI c ≤ v → post 0) ∧ (¬ nI c ≤ v → post 1)) := by
  refine br_c (fun e => h0 (fun hx => ?_)) (fun e => br_c (fun g => h0 (fun hx => ?_)) (fun g => ?_))
  · obtain ⟨k, hk, z⟩ := hx
    rw [z] at e
    exact nI_pos (by omega) e
  · obtain ⟨k, hk, z⟩ := hx
    rw [z] at g
    exact nI_ge hk hc g
  · obtain ⟨k, hk, z⟩ := nI_of e
    rw [z] at g
    refine h1 k ?_ z
    rcases Nat.lt_or_ge k c with y | y
    · exact y
    · exact absurd (nI_le y hk) g
theorem xw_isN {post : Int32 → Prop} {v : Int32} (h1 : ∀ k, k < 729 → v = nI k → post 1) (h0 : (¬ ∃ k, k < 729 ∧ v = nI k) → post 0) : wpX_isNormal post v := xw_ix (c := 729) (by omega) h1 h0
theorem xw_isA {post : Int32 → Prop} {v : Int32} (h1 : ∀ k, k < 3 → v = nI k → post 1) (h0 : (¬ ∃ k, k < 3 ∧ v = nI k) → post 0) : wpX_isAxis post v := xw_ix (c := 3) (by omega) h1 h0
theorem xw_isC {post : Int32 → Prop} {v : Int32} (hn : n < 2 ^ 31) (h1 : ∀ k, k < n → v = nI k → post 1) (h0 : (¬ ∃ k, k < n ∧ v = nI k) → post 0) : wpX_isCut post (nI n, ff, pl, co, tt, st) v := xw_ix hn h1 h0
theorem xw_isK {post : Int32 → Prop} {v : Int32} (hn : c < 2 ^ 31) (h1 : ∀ k, k < c → v = nI k → post 1) (h0 : (¬ ∃ k, k < c ∧ v = nI k) → post 0) : wpX_isCorner post (fc, nI c, pl, co, tt, st) v := xw_ix hn h1 h0
theorem yw_ix {post : Int32 → Prop} {v hi : Int32} {c : Nat} (hc : c < 2 ^ 31) (hh : hi = nI c - 1) (h1 : ∀ k, k < c → v = nI k → post 1) (h0 : (¬ ∃ k, k < c ∧ v = nI k) → post 0) :
    wpY_in post (fn, fp, fk, nr, nb, gu, gv, gw, gd, gx, gy, gz, gb, gt, gf) v 0 hi := by
  refine br_c (fun e => h0 (fun hx => ?_)) (fun e => br_c (fun g => h0 (fun hx => ?_)) (fun g => ?_))
  · obtain ⟨k, hk, z⟩ := hx
    rw [z] at e
    exact nI_pos (by omega) e
  · obtain ⟨k, hk, z⟩ := hx
    rw [z, hh] at g
    obtain ⟨c', rfl⟩ : ∃ c', c = c' + 1 := ⟨c - 1, by omega⟩
    rw [nI_pred] at g
    exact nI_nlt (by omega) (by omega) g
  · obtain ⟨k, hk, z⟩ := nI_of e
    refine h1 k ?_ z
    rcases Nat.lt_or_ge k c with y | y
    · exact y
    · exfalso
      apply g
      rw [z, hh]
      by_cases c0 : c = 0
      · subst c0
        have : nI 0 - 1 < 0 := by decide
        exact Int32.lt_of_lt_of_le this (nI_pos' hk)
      · obtain ⟨c', rfl⟩ : ∃ c', c = c' + 1 := ⟨c - 1, by omega⟩
        rw [nI_pred]
        exact nI_lt (by omega) hk

/-- one plane written -/
def xw_ap (pl pl' : Nat → Int32) (p : Nat) (q : gm_V) : Prop :=
  (∀ i, i < 4 * p ∨ 4 * p + 4 ≤ i → pl' i = pl i) ∧ pl' (4 * p) = nu_I q.1 ∧ pl' (4 * p + 1) = nu_I q.2.1 ∧ pl' (4 * p + 2) = nu_I q.2.2.1 ∧ pl' (4 * p + 3) = nu_I q.2.2.2
theorem xw_ap_C {pl pl' : Nat → Int32} {p : Nat} {q : gm_V} (h : xw_ap pl pl' p q) (hC : xw_C pl p Q) (hq : Q p = q) : xw_C pl' (p + 1) Q := by
  intro k hk
  by_cases e : k = p
  · subst e; rw [hq]; exact h.2
  · rw [h.1 _ (by omega), h.1 _ (by omega), h.1 _ (by omega), h.1 _ (by omega)]
    exact hC k (by omega)
theorem xw_ap_lo {pl pl' : Nat → Int32} {p m : Nat} {q : gm_V} (h : xw_ap pl pl' p q) (hm : m ≤ p) (hC : xw_C pl m Q) : xw_C pl' m Q := by
  intro k hk
  rw [h.1 _ (by omega), h.1 _ (by omega), h.1 _ (by omega), h.1 _ (by omega)]
  exact hC k hk
/-- the first t cells written -/
def xw_pp (pl pl' : Nat → Int32) (p t : Nat) (q : gm_V) : Prop :=
  (∀ i, i < 4 * p ∨ 4 * p + t ≤ i → pl' i = pl i) ∧ ∀ o, o < t → pl' (4 * p + o) = nu_I (gm_c q o)
theorem xw_pp_s {pl pl' : Nat → Int32} {p t : Nat} {q : gm_V} (h : xw_pp pl pl' p t q) : xw_pp pl (upd pl' (4 * p + t) (nu_I (gm_c q t))) p (t + 1) q := by
  refine ⟨fun i hi => ?_, fun o ho => ?_⟩
  · rw [pk_un (by omega)]; exact h.1 i (by omega)
  · by_cases e : o = t
    · subst e; exact pk_us
    · rw [pk_un (by omega)]; exact h.2 o (by omega)
theorem xw_pp_4 {pl pl' : Nat → Int32} {p : Nat} {q : gm_V} (h : xw_pp pl pl' p 4 q) : xw_ap pl pl' p q :=
  ⟨h.1, h.2 0 (by omega), h.2 1 (by omega), h.2 2 (by omega), h.2 3 (by omega)⟩
theorem xw_ax_c {a t : Nat} {s d : Int} (ha : a < 3) (ht : t < 3) : gm_c (rl_ax a s d) t = if t = a then s else 0 := by
  have : t = 0 ∨ t = 1 ∨ t = 2 := by omega
  have : a = 0 ∨ a = 1 ∨ a = 2 := by omega
  rcases ‹t = 0 ∨ _› with e | e | e <;> rcases ‹a = 0 ∨ _› with g | g | g <;> subst e <;> subst g <;> rfl
theorem xw_ac3 {post : SX → Prop} {p a : Nat} {s d : Int} (hp : p < 16) (ha : a < 3) (h : ∀ pl', xw_ap pl pl' p (rl_ax a s d) → post (fc, ff, pl', co, tt, st)) :
    ∀ (k t : Nat) (pl' : Nat → Int32), t + k = 3 → xw_pp pl pl' p t (rl_ax a s d) → wX_setPlaneAcross_3 post (nI p) (nI a) (nu_I s) (nu_I d) fc ff (k + 1) (nI t) pl' co tt st := by
  have v : ∀ x : Nat, x < 64 → vp_in (nI x) 64 := fun x hx => vp_in_nI hx (by omega)
  intro k
  induction k with
  | zero =>
    intro t pl' ht hI
    have : t = 3 := by omega
    subst this
    refine br_t (by decide) ?_
    rw [xw_4, xw_a3, nI_clamp (by omega)]
    exact ⟨v _ (by omega), nm_e (h _ (xw_pp_4 (xw_pp_s hI)))⟩
  | succ k ih =>
    intro t pl' ht hI
    have c1 := xw_ax_c (s := s) (d := d) ha (show t < 3 by omega)
    have hs := xw_pp_s hI
    rw [c1] at hs
    refine br_f (nI_ge (b := 3) (by omega) (by decide)) ?_
    rw [xw_4, nI_add, nI_clamp (by omega)]
    by_cases e : t = a
    · rw [if_pos e] at hs
      exact br_t (by rw [e]) ⟨v _ (by omega), nm_e (nm_r (nI_1 t) (ih (t + 1) _ (by omega) hs))⟩
    · rw [if_neg e, ← nu_0] at hs
      exact br_f (fun z => e ((nI_eq (by omega) (by omega)).mp z)) ⟨v _ (by omega), nm_e (nm_r (nI_1 t) (ih (t + 1) _ (by omega) hs))⟩
theorem xw_across {post : SX → Prop} {p a : Nat} {s d : Int} {s' d' : Int32} (es : s' = nu_I s) (ed : d' = nu_I d) (hp : p < 16) (ha : a < 3) (h : ∀ pl', xw_ap pl pl' p (rl_ax a s d) → post (fc, ff, pl', co, tt, st)) :
    wpX_setPlaneAcross post (fc, ff, pl, co, tt, st) (nI p) (nI a) s' d' := by
  subst es ed
  exact ⟨4, xw_ac3 hp ha h 3 0 pl (by omega) ⟨fun _ _ => rfl, fun o ho => by omega⟩⟩
theorem xw_2 (k : Nat) : (2 : Int32) * nI k = nI (2 * k) := pk_mul 2 k
theorem xw_init49 {post : SX → Prop} (h : ∀ pl, xw_C pl 6 gm_bx → post (fc, ff, pl, co, tt, st)) :
    ∀ (k a : Nat) (pl : Nat → Int32), a + k = 3 → xw_C pl (2 * a) gm_bx → wX_init_49 post (k + 1) (nI a) fc ff pl co tt st := by
  intro k
  induction k with
  | zero =>
    intro a pl ha hC
    have : a = 3 := by omega
    subst this
    exact br_t (by decide) (h pl hC)
  | succ k ih =>
    intro a pl ha hC
    have b := rl_bx0 a (by omega)
    refine br_f (nI_ge (b := 3) (by omega) (by decide)) ?_
    rw [xw_2]
    refine xw_across (s := 1) (d := 8) (by decide) (by decide) (by omega) (by omega) (fun pl1 h1 => ?_)
    dsimp only
    rw [xw_a1 (2 * a)]
    refine xw_across (s := -1) (d := 8) (by decide) (by decide) (by omega) (by omega) (fun pl2 h2 => ?_)
    exact nm_r (nI_1 a) (ih (a + 1) pl2 (by omega) (xw_ap_C h2 (xw_ap_C h1 hC b.1) b.2))

/-- the two states hold the same cuts -/
def rl_R (n : Nat) (M : Nat → Nat) (D : Nat → Int) (pl nr nb : Nat → Int32) : Prop := rl_ok n M D ∧ yw_N nr nb n M D ∧ xw_C pl (6 + n) (rl_Q M D)
def i_Rel (_ : Nat) (u : SX) (v : SY) : Prop := ∃ n M D, u.1 = nI n ∧ v.1 = nI n ∧ rl_R n M D u.2.2.1 v.2.2.2.1 v.2.2.2.2.1
theorem i_up {k : Nat} {u : SX} {v : SY} (h : i_Rel k u v) : i_Rel (k + 3) u v := h
theorem i_vc0 : wpX_init (fun u => wpY_init (fun v => i_Rel 0 u v)) := by
  refine ⟨4, xw_init49 (fun pl hC => ?_) 3 0 _ (by omega) (fun k hk => by omega)⟩
  refine ⟨0, fun _ => 0, fun _ => 0, rfl, rfl, ⟨by omega, fun i hi => by omega⟩, fun i hi => by omega, ?_⟩
  exact xw_C_cg hC (fun k hk => (if_pos hk).symm)

theorem rl_ct_c {M a : Nat} {d : Int} (ha : a < 3) : gm_c (rl_ct M d) a = if a = 0 then ((M % 9 : Nat) : Int) - 4 else if a = 1 then ((M / 9 % 9 : Nat) : Int) - 4 else ((M / 81 : Nat) : Int) - 4 := by
  have : a = 0 ∨ a = 1 ∨ a = 2 := by omega
  rcases this with e | e | e <;> subst e <;> rfl
theorem xw_part {post : Int32 → Prop} {M a : Nat} {d : Int} (hM : M ≤ 728) (ha : a < 3) (h : post (nu_I (gm_c (rl_ct M d) a))) : wpX_part post (nI M) (nI a) := by
  rw [rl_ct_c ha] at h
  have : a = 0 ∨ a = 1 ∨ a = 2 := by omega
  rcases this with e | e | e
  · subst e
    refine br_t rfl ⟨by decide, ?_⟩
    rw [yw_p9 hM]; exact h
  · subst e
    refine br_f (by decide) (br_t rfl ⟨by decide, by decide, ?_⟩)
    rw [yw_p99 hM]; exact h
  · subst e
    refine br_f (by decide) (br_f (by decide) ⟨by decide, ?_⟩)
    rw [yw_p81 hM]; exact h
theorem xw_cut54 {post : Int32 → SX → Prop} {p M : Nat} {d : Int} (hp : p < 16) (hM : M ≤ 728) (hn : n < 8) (h : ∀ pl', xw_ap pl pl' p (rl_ct M d) → post (nI (n + 1)) (nI (n + 1), ff, pl', co, tt, st)) :
    ∀ (k t : Nat) (pl' : Nat → Int32), t + k = 3 → xw_pp pl pl' p t (rl_ct M d) → wX_cut_54 post (nI M) (nu_I d) (nI (4 * p)) (nI n) ff (k + 1) (nI t) pl' co tt st := by
  have v : ∀ x : Nat, x < 64 → vp_in (nI x) 64 := fun x hx => vp_in_nI hx (by omega)
  intro k
  induction k with
  | zero =>
    intro t pl' ht hI
    have : t = 3 := by omega
    subst this
    refine br_t (by decide) ?_
    rw [xw_a3, nI_clamp (by omega)]
    exact ⟨v _ (by omega), nm_e (nm_r (nI_1 n) (h _ (xw_pp_4 (xw_pp_s hI))))⟩
  | succ k ih =>
    intro t pl' ht hI
    refine br_f (nI_ge (b := 3) (by omega) (by decide)) (xw_part (d := d) hM (by omega) ?_)
    rw [nI_add, nI_clamp (by omega)]
    exact ⟨v _ (by omega), nm_e (nm_r (nI_1 t) (ih (t + 1) _ (by omega) (xw_pp_s hI)))⟩
/-- a cut is added -/
theorem rl_push {M : Nat → Nat} {D : Nat → Int} {m : Nat} {d : Int} {pl' : Nat → Int32} (h : rl_R n M D pl nr nb) (hn : n < 8) (h1 : m ≤ 728) (h2 : m ≠ 364) (h3 : -60 ≤ d) (h4 : d ≤ 60)
    (hp : xw_ap pl pl' (6 + n) (rl_ct m d)) : rl_R (n + 1) (fun i => if i = n then m else M i) (fun i => if i = n then d else D i) pl' (upd nr n (nI m)) (upd nb n (nu_I d)) := by
  obtain ⟨⟨k1, k2⟩, k3, k4⟩ := h
  refine ⟨⟨by omega, fun i hi => ?_⟩, fun i hi => ?_, ?_⟩
  · by_cases e : i = n
    · simp only [if_pos e]; exact ⟨h1, h2, h3, h4⟩
    · simp only [if_neg e]; exact k2 i (by omega)
  · by_cases e : i = n
    · subst e; rw [pk_us, pk_us]; simp
    · rw [pk_un e, pk_un e]; simp only [if_neg e]; exact k3 i (by omega)
  · have hC : xw_C pl (6 + n) (rl_Q (fun i => if i = n then m else M i) (fun i => if i = n then d else D i)) := by
      refine xw_C_cg k4 (fun k hk => ?_)
      unfold rl_Q
      by_cases e : k < 6
      · rw [if_pos e, if_pos e]
      · rw [if_neg e, if_neg e]
        simp only [if_neg (show ¬ k - 6 = n by omega)]
    have e6 : rl_Q (fun i => if i = n then m else M i) (fun i => if i = n then d else D i) (6 + n) = rl_ct m d := by
      unfold rl_Q
      rw [if_neg (by omega), show 6 + n - 6 = n by omega]
      simp
    have := xw_ap_C hp hC e6
    exact this
theorem xw_64 (k : Nat) : (4 : Int32) * (6 + nI k) = nI (4 * (6 + k)) := by
  rw [show (6 : Int32) = nI 6 from rfl, nI_add]; exact pk_mul 4 (6 + k)
theorem i_vc_cut {k : Nat} {u : SX} {v : SY} (I : i_Rel k u v) (hk : k + 3 ≤ 1536) (v1 : Int32) (v2 : Int32) : wpX_cut (fun r u' => wpY_cut (fun r' v' => r' = r ∧ i_Rel (k + 3) u' v') v v1 v2) u v1 v2 := by
  obtain ⟨fc, ff, pl, co, tt, st⟩ := u
  obtain ⟨fn, fp, fk, nr, nb, gu, gv, gw, gd, gx, gy, gz, gb, gt, gf⟩ := v
  have I' := I
  obtain ⟨n, M, D, e1, e2, hR⟩ := I
  dsimp only at e1 e2 hR
  subst e1 e2
  have hn8 := hR.1.1
  by_cases hn : n < 8
  · have hnY : ¬ nI n = 8 := fun z => by
      have := (nI_eq (b := 8) (by omega) (by omega)).mp z
      omega
    refine br_t (nI_lt (b := 8) hn (by decide)) (xw_isN (fun m hm e => ?_) (fun hx => ?_))
    · subst e
      refine br_f (by decide) (br_c (fun g => ?_) (fun g => br_c (fun a => ?_) (fun a => br_c (fun b => ?_) (fun b => ?_))))
      · exact br_f hnY (yw_ix (c := 729) (by omega) (by decide) (fun _ _ _ => br_f (by decide) (br_t g ⟨rfl, I'⟩)) (fun hx => absurd ⟨m, hm, rfl⟩ hx))
      · exact br_f hnY (yw_ix (c := 729) (by omega) (by decide) (fun _ _ _ => br_f (by decide) (br_f g (br_t a (br_t rfl ⟨rfl, I'⟩)))) (fun hx => absurd ⟨m, hm, rfl⟩ hx))
      · have hm4 : m ≠ 364 := fun z => g (by rw [z]; rfl)
        have b0 : (-60 : Int32) ≤ v2 := Int32.not_lt.mp a
        have d1 : -60 ≤ v2.toInt := by
          have := Int32.le_iff_toInt_le.mp b0
          rwa [show (-60 : Int32).toInt = -60 by decide] at this
        have d2 : v2.toInt ≤ 60 := by
          have := Int32.le_iff_toInt_le.mp b
          rwa [show (60 : Int32).toInt = 60 by decide] at this
        rw [nu_of v2] at a b
        rw [nu_of v2]
        refine nm_r (xw_64 n) ⟨4, xw_cut54 (p := 6 + n) (by omega) (by omega) hn (fun pl' hp => ?_) 3 0 pl (by omega) ⟨fun _ _ => rfl, fun o ho => by omega⟩⟩
        refine br_f hnY (yw_ix (c := 729) (by omega) (by decide) (fun _ _ _ => br_f (by decide) (br_f g ?_)) (fun hx => absurd ⟨m, hm, rfl⟩ hx))
        refine br_f a (br_f (Int32.not_lt.mpr b) (br_f (by decide) ?_))
        have vn := vp_in_nI (n := n) (N := 8) hn (by omega)
        rw [nI_clamp (by omega)]
        exact ⟨vn, nm_e ⟨vn, nm_e (nm_r (nI_1 n) ⟨rfl, n + 1, _, _, rfl, rfl, rl_push hR hn (by omega) hm4 d1 d2 hp⟩)⟩⟩
      · exact br_f hnY (yw_ix (c := 729) (by omega) (by decide) (fun _ _ _ => br_f (by decide) (br_f g (br_f a (br_t (Int32.not_le.mp b) (br_t rfl ⟨rfl, I'⟩))))) (fun hx => absurd ⟨m, hm, rfl⟩ hx))
    · exact br_t rfl (br_f hnY (yw_ix (c := 729) (by omega) (by decide) (fun m hm e => absurd ⟨m, hm, e⟩ hx) (fun _ => br_t rfl ⟨rfl, I'⟩)))
  · have : n = 8 := by omega
    subst this
    exact br_f (by decide) (br_t rfl ⟨rfl, I'⟩)
end
end
section
/-! drop, corners, top, bottom, on -/
section
variable {fc ff : Int32} {pl co tt st : Nat → Int32} {Q f : Nat → gm_V} {n c : Nat} {M : Nat → Nat} {D : Nat → Int}
variable {fn fp fk : Int32} {nr nb gu gv gw gd gx gy gz gb gt gf : Nat → Int32}
theorem xw_66 (k : Nat) : (6 : Int32) + nI k = nI (6 + k) := nI_add 6 k
theorem nI_m1 {p : Nat} (hp : p < 2 ^ 31) : ¬ nI p = -1 := fun e => absurd (e ▸ nI_pos' hp : (0 : Int32) ≤ -1) (by decide)
theorem xw_L0 (hn : n ≤ 16) : xw_L n (-1) (fun _ => False) := fun p hp => ⟨fun e => nI_m1 (by omega) e, fun e => e.elim⟩
theorem xw_Ll {l : Nat} (hn : n ≤ 16) (hl : l < 16) : xw_L n (nI l) (fun p => p = l) := fun p hp => nI_eq (by omega) (by omega)
theorem xw_ac0 (n : Nat) : (fun p => p < n ∧ ¬ False) = (fun p => p < n) := by
  funext p
  simp
theorem xw_body {post : SX → Prop} (hR : rl_R n M D pl nr nb)
    (h : ∀ c f co tt, c ≤ 32 → ls_L (gm_Vt (rl_Q M D) (fun p => p < 6 + n)) c f → xw_C co c f → xw_T tt c (6 + n) (rl_Q M D) f → post (nI n, nI c, pl, co, tt, st)) :
    wpX_findBodyCorners post (nI n, ff, pl, co, tt, st) := by
  have hn8 := hR.1.1
  unfold wpX_findBodyCorners
  dsimp only
  rw [xw_66]
  refine xw_find (xw_L0 (by omega)) hR.2.2 (by omega) (fun i hi => (rl_Q_ok hR.1 i hi).1) (fun c f co tt a b d e => ?_)
  rw [xw_ac0] at b
  exact h c f co tt a b d e
theorem yw_A_eq {a b d e : Nat → Int32} {c c' : Nat} {f f' : Nat → gm_V} (h : yw_A a b d e c' f') (h1 : c = c') (h2 : ∀ i, i < c → f i = f' i) : yw_A a b d e c f := by
  subst h1
  exact yw_A_cg h (fun k hk => (h2 k hk).symm)
theorem xw_T_eq {t : Nat → Int32} {c c' m : Nat} {f f' : Nat → gm_V} (h : xw_T t c' m Q f') (h1 : c = c') (h2 : ∀ i, i < c → f i = f' i) : xw_T t c m Q f := by
  subst h1
  intro k hk
  rw [h2 k hk]
  exact h k hk
theorem yw_fc2 {post : SY → Prop} (hQ : yw_A gu gv gw gd n Q) (hn : n ≤ 16) (hok : ∀ i, i < n → gm_ok (Q i)) (hL : ls_L (gm_Vt Q (fun p => p < n)) c f)
    (h : ∀ gx gy gz gb gt, yw_A gx gy gz gb c f → xw_T gt c n Q f → post (fn, nI n, nI c, nr, nb, gu, gv, gw, gd, gx, gy, gz, gb, gt, gf)) : wpY_findCorners post (fn, nI n, fk, nr, nb, gu, gv, gw, gd, gx, gy, gz, gb, gt, gf) := by
  refine yw_fc hQ hn hok (fun c' f' gx gy gz gb gt a b d e => ?_)
  obtain ⟨e1, e2⟩ := ls_u (fun p hp => hp.1.1) hL b
  have := h gx gy gz gb gt (yw_A_eq d e1 e2) (xw_T_eq e e1 e2)
  rw [e1] at this
  exact this
theorem yw_find2 {post : SY → Prop} (hR : rl_R n M D pl nr nb) (hL : ls_L (gm_Vt (rl_Q M D) (fun p => p < 6 + n)) c f)
    (h : ∀ gu gv gw gd gx gy gz gb gt, yw_A gu gv gw gd (6 + n) (rl_Q M D) → yw_A gx gy gz gb c f → xw_T gt c (6 + n) (rl_Q M D) f → post (nI n, nI (6 + n), nI c, nr, nb, gu, gv, gw, gd, gx, gy, gz, gb, gt, gf)) :
    wpY_find post (nI n, fp, fk, nr, nb, gu, gv, gw, gd, gx, gy, gz, gb, gt, gf) := by
  have hn8 := hR.1.1
  unfold wpY_find
  exact yw_set hR.1 hR.2.1 (fun gu gv gw gd g => yw_fc2 g (by omega) (fun i hi => (rl_Q_ok hR.1 i hi).1) hL (fun gx gy gz gb gt a b => h _ _ _ _ _ _ _ _ _ g a b))

theorem i_vc_corners {k : Nat} {u : SX} {v : SY} (I : i_Rel k u v) (hk : k + 3 ≤ 1536) : wpX_corners (fun r u' => wpY_corners (fun r' v' => r' = r ∧ i_Rel (k + 3) u' v') v) u := by
  obtain ⟨fc, ff, pl, co, tt, st⟩ := u
  obtain ⟨fn, fp, fk, nr, nb, gu, gv, gw, gd, gx, gy, gz, gb, gt, gf⟩ := v
  obtain ⟨n, M, D, e1, e2, hR⟩ := I
  dsimp only at e1 e2 hR
  subst e1 e2
  unfold wpX_corners
  refine xw_body hR (fun c f co tt hc hL hC hT => ?_)
  unfold wpY_corners
  exact yw_find2 hR hL (fun gu gv gw gd gx gy gz gb gt a b d => ⟨rfl, n, M, D, rfl, rfl, hR⟩)
theorem i_vc_top {k : Nat} {u : SX} {v : SY} (I : i_Rel k u v) (hk : k + 3 ≤ 1536) (v1 : Int32) (v2 : Int32) : wpX_top (fun r u' => wpY_top (fun r' v' => r' = r ∧ i_Rel (k + 3) u' v') v v1 v2) u v1 v2 := by
  obtain ⟨fc, ff, pl, co, tt, st⟩ := u
  obtain ⟨fn, fp, fk, nr, nb, gu, gv, gw, gd, gx, gy, gz, gb, gt, gf⟩ := v
  have I' := I
  obtain ⟨n, M, D, e1, e2, hR⟩ := I
  dsimp only at e1 e2 hR
  subst e1 e2
  unfold wpX_top
  refine xw_isA (fun a ha ea => ?_) (fun hx => ?_)
  · subst ea
    refine br_f (by decide) (xw_body hR (fun c f co tt hc hL hC hT => ?_))
    refine xw_isK (by omega) (fun j hj ej => ?_) (fun hx => ?_)
    · subst ej
      refine br_f (by decide) ?_
      rw [xw_4, nI_add, nI_clamp (by omega), xw_Ca hC hj (show a < 4 by omega)]
      refine ⟨vp_in_nI (by omega) (by omega), ?_⟩
      unfold wpY_top
      refine yw_ix (c := 3) (by omega) (by decide) (fun _ _ _ => br_f (by decide) ?_) (fun hx => absurd ⟨a, ha, rfl⟩ hx)
      refine yw_find2 hR hL (fun gu gv gw gd gx gy gz gb gt g1 g2 g3 => ?_)
      refine yw_ix (c := c) (by omega) rfl (fun _ _ _ => br_f (by decide) ?_) (fun hx => absurd ⟨j, hj, rfl⟩ hx)
      have vj := vp_in_nI (n := j) (N := 40) (by omega) (by omega)
      obtain ⟨y0, y1, y2, y3⟩ := g2 j hj
      have R : i_Rel (k + 3) (nI n, nI c, pl, co, tt, st) (nI n, nI (6 + n), nI c, nr, nb, gu, gv, gw, gd, gx, gy, gz, gb, gt, gf) := ⟨n, M, D, rfl, rfl, hR⟩
      rw [nI_clamp (by omega), y0, y1, y2]
      have : a = 0 ∨ a = 1 ∨ a = 2 := by omega
      rcases this with e | e | e
      · subst e; exact br_t rfl ⟨vj, rfl, R⟩
      · subst e; exact br_f (by decide) (br_t rfl ⟨vj, rfl, R⟩)
      · subst e; exact br_f (by decide) (br_f (by decide) ⟨vj, rfl, R⟩)
    · refine br_t rfl ?_
      unfold wpY_top
      refine yw_ix (c := 3) (by omega) (by decide) (fun _ _ _ => br_f (by decide) ?_) (fun hx => absurd ⟨a, ha, rfl⟩ hx)
      refine yw_find2 hR hL (fun gu gv gw gd gx gy gz gb gt g1 g2 g3 => ?_)
      exact yw_ix (c := c) (by omega) rfl (fun j hj ej => absurd ⟨j, hj, ej⟩ hx) (fun _ => br_t rfl ⟨rfl, n, M, D, rfl, rfl, hR⟩)
  · refine br_t rfl ?_
    unfold wpY_top
    exact yw_ix (c := 3) (by omega) (by decide) (fun j hj ej => absurd ⟨j, hj, ej⟩ hx) (fun _ => br_t rfl ⟨rfl, I'⟩)
theorem i_vc_bottom {k : Nat} {u : SX} {v : SY} (I : i_Rel k u v) (hk : k + 3 ≤ 1536) (v1 : Int32) : wpX_bottom (fun r u' => wpY_bottom (fun r' v' => r' = r ∧ i_Rel (k + 3) u' v') v v1) u v1 := by
  obtain ⟨fc, ff, pl, co, tt, st⟩ := u
  obtain ⟨fn, fp, fk, nr, nb, gu, gv, gw, gd, gx, gy, gz, gb, gt, gf⟩ := v
  obtain ⟨n, M, D, e1, e2, hR⟩ := I
  dsimp only at e1 e2 hR
  subst e1 e2
  unfold wpX_bottom
  refine xw_body hR (fun c f co tt hc hL hC hT => ?_)
  refine xw_isK (by omega) (fun j hj ej => ?_) (fun hx => ?_)
  · subst ej
    refine br_f (by decide) ?_
    rw [xw_4, xw_a3, nI_clamp (by omega), (hC j hj).2.2.2]
    refine ⟨vp_in_nI (by omega) (by omega), ?_⟩
    unfold wpY_bottom
    refine yw_find2 hR hL (fun gu gv gw gd gx gy gz gb gt g1 g2 g3 => ?_)
    refine yw_ix (c := c) (by omega) rfl (fun _ _ _ => br_f (by decide) ?_) (fun hx => absurd ⟨j, hj, rfl⟩ hx)
    rw [nI_clamp (by omega), (g2 j hj).2.2.2]
    exact ⟨vp_in_nI (by omega) (by omega), rfl, n, M, D, rfl, rfl, hR⟩
  · refine br_t rfl ?_
    unfold wpY_bottom
    refine yw_find2 hR hL (fun gu gv gw gd gx gy gz gb gt g1 g2 g3 => ?_)
    exact yw_ix (c := c) (by omega) rfl (fun j hj ej => absurd ⟨j, hj, ej⟩ hx) (fun _ => br_t rfl ⟨rfl, n, M, D, rfl, rfl, hR⟩)

/-- a bit of a mask -/
theorem nx_tb {m p : Nat} (hm : m < 2 ^ 31) (hp : p < 31) : (nI m >>> (nI p &&& 31)) &&& 1 = nI (m / 2 ^ p % 2) := by
  rw [pk_shrN hm (nI p &&& 31) p (s_l p (by omega))]
  have h1 : m / 2 ^ p ≤ m := Nat.div_le_self _ _
  rw [pk_andN (by omega) 1 (by decide)]
theorem nx_bit1 {m n p : Nat} {P : Nat → Prop} (h : nu_ms m n P) (hn : n ≤ 16) (hp : p < n) :
    (P p → (nI m >>> (nI p &&& 31)) &&& 1 = 1) ∧ (¬ P p → (nI m >>> (nI p &&& 31)) &&& 1 = 0) := by
  have hl := nu_ms_lt h
  have h16 : 2 ^ n ≤ 2 ^ 16 := Nat.pow_le_pow_right (by decide) hn
  rw [nx_tb (by omega) (by omega)]
  have hb := h p
  rw [Nat.testBit_eq_decide_div_mod_eq, decide_eq_true_eq] at hb
  refine ⟨fun a => ?_, fun a => ?_⟩
  · rw [hb.mpr ⟨hp, a⟩]; rfl
  · have : m / 2 ^ p % 2 = 0 := by
      have : ¬ m / 2 ^ p % 2 = 1 := fun z => a (hb.mp z).2
      omega
    rw [this]; rfl
theorem xw_cin4 {post : Int32 → Prop} {p : Nat} (hT : xw_T tt c n Q f) (hc : c ≤ 32) (hn : n ≤ 16) (hp : p < n) (h : post (nI (gm_cn (fun k => gm_ev (Q p) (f k) = 0) c))) :
    ∀ d k : Nat, k + d = c → wX_cornersIn_4 post (nI p) fc (nI c) pl co tt st (d + 1) (nI (gm_cn (fun k => gm_ev (Q p) (f k) = 0) k)) (nI k) := by
  intro d
  induction d with
  | zero =>
    intro k hk
    have : k = c := by omega
    subst this
    exact br_t (nI_le (Nat.le_refl _) (by omega)) h
  | succ d ih =>
    intro k hk
    obtain ⟨m, hm, hs⟩ := hT k (by omega)
    have hb := nx_bit1 hs hn hp
    refine br_f (nI_ge (by omega) (by omega)) ⟨vp_in_nI (by omega) (by omega), ?_⟩
    rw [nI_clamp (by omega), hm]
    by_cases e : gm_ev (Q p) (f k) = 0
    · rw [hb.1 e]
      refine nm_r (nI_1 _) (nm_r (nI_1 k) ?_)
      rw [← gm_cn_t (P := fun k => gm_ev (Q p) (f k) = 0) e]
      exact ih (k + 1) (by omega)
    · rw [hb.2 e]
      refine nm_r (Int32.add_zero _) (nm_r (nI_1 k) ?_)
      rw [← gm_cn_f (P := fun k => gm_ev (Q p) (f k) = 0) e]
      exact ih (k + 1) (by omega)
theorem xw_cin {post : Int32 → Prop} {p : Nat} (hT : xw_T tt c n Q f) (hc : c ≤ 32) (hn : n ≤ 16) (hp : p < n) (h : post (nI (gm_cn (fun k => gm_ev (Q p) (f k) = 0) c))) :
    wpX_cornersIn post (fc, nI c, pl, co, tt, st) (nI p) := ⟨c + 1, xw_cin4 hT hc hn hp h c 0 (by omega)⟩
theorem yw_on26 {post : Int32 → SY → Prop} {l : Nat} (hT : xw_T gt c n Q f) (hc : c ≤ 32) (hn : n ≤ 16) (hp : 6 + l < n) (h : post (nI (gm_cn (fun k => gm_ev (Q (6 + l)) (f k) = 0) c)) (fn, fp, nI c, nr, nb, gu, gv, gw, gd, gx, gy, gz, gb, gt, gf)) :
    ∀ d k : Nat, k + d = c → wY_on_26 post (nI l) fn fp (nI c) nr nb gu gv gw gd gx gy gz gb gt gf (d + 1) (nI (gm_cn (fun k => gm_ev (Q (6 + l)) (f k) = 0) k)) (nI k) := by
  intro d
  induction d with
  | zero =>
    intro k hk
    have : k = c := by omega
    subst this
    exact br_t (nI_le (Nat.le_refl _) (by omega)) h
  | succ d ih =>
    intro k hk
    obtain ⟨m, hm, hs⟩ := hT k (by omega)
    have hb := nx_bit1 hs hn hp
    refine br_f (nI_ge (by omega) (by omega)) ⟨vp_in_nI (by omega) (by omega), ?_⟩
    rw [nI_clamp (by omega), hm, xw_66]
    by_cases e : gm_ev (Q (6 + l)) (f k) = 0
    · rw [hb.1 e]
      refine br_t rfl (nm_r (nI_1 _) (nm_r (nI_1 k) ?_))
      rw [← gm_cn_t (P := fun k => gm_ev (Q (6 + l)) (f k) = 0) e]
      exact ih (k + 1) (by omega)
    · rw [hb.2 e]
      refine br_f (by decide) (nm_r (nI_1 k) ?_)
      rw [← gm_cn_f (P := fun k => gm_ev (Q (6 + l)) (f k) = 0) e]
      exact ih (k + 1) (by omega)
theorem i_vc_on {k : Nat} {u : SX} {v : SY} (I : i_Rel k u v) (hk : k + 3 ≤ 1536) (v1 : Int32) : wpX_on (fun r u' => wpY_on (fun r' v' => r' = r ∧ i_Rel (k + 3) u' v') v v1) u v1 := by
  obtain ⟨fc, ff, pl, co, tt, st⟩ := u
  obtain ⟨fn, fp, fk, nr, nb, gu, gv, gw, gd, gx, gy, gz, gb, gt, gf⟩ := v
  have I' := I
  obtain ⟨n, M, D, e1, e2, hR⟩ := I
  dsimp only at e1 e2 hR
  subst e1 e2
  have hn8 := hR.1.1
  unfold wpX_on
  refine xw_isC (by omega) (fun l hl el => ?_) (fun hx => ?_)
  · subst el
    refine br_f (by decide) (xw_body hR (fun c f co tt hc hL hC hT => ?_))
    dsimp only
    rw [xw_66]
    refine xw_cin hT hc (by omega) (by omega) ?_
    unfold wpY_on
    refine yw_ix (c := n) (by omega) rfl (fun _ _ _ => br_f (by decide) ?_) (fun hx => absurd ⟨l, hl, rfl⟩ hx)
    refine yw_find2 hR hL (fun gu gv gw gd gx gy gz gb gt g1 g2 g3 => ?_)
    exact ⟨c + 1, yw_on26 g3 hc (by omega) (by omega) ⟨rfl, n, M, D, rfl, rfl, hR⟩ c 0 (by omega)⟩
  · refine br_t rfl ?_
    unfold wpY_on
    exact yw_ix (c := n) (by omega) rfl (fun j hj ej => absurd ⟨j, hj, ej⟩ hx) (fun _ => br_t rfl ⟨rfl, I'⟩)
end
end
section
/-! drop, needless, section -/
section
variable {fc ff : Int32} {pl co tt st : Nat → Int32} {Q f : Nat → gm_V} {n c : Nat} {M : Nat → Nat} {D : Nat → Int}
variable {fn fp fk : Int32} {nr nb gu gv gw gd gx gy gz gb gt gf : Nat → Int32}
theorem xw_d30 {post : Int32 → SX → Prop} {l : Nat} (hn : n ≤ 8) (hl : l < n)
    (h : ∀ pl', (∀ i, i < 4 * (6 + l) → pl' i = pl i) → (∀ i, 4 * (6 + l) ≤ i → i < 4 * (5 + n) → pl' i = pl (i + 4)) → post (nI (n - 1)) (nI (n - 1), ff, pl', co, tt, st)) :
    ∀ (d t : Nat) (pl' : Nat → Int32), t + d = 4 * (5 + n) → 4 * (6 + l) ≤ t → (∀ i, i < 4 * (6 + l) → pl' i = pl i) → (∀ i, 4 * (6 + l) ≤ i → i < t → pl' i = pl (i + 4)) → (∀ i, t ≤ i → pl' i = pl i) →
      wX_drop_30 post (nI (4 * (5 + n))) (nI n) ff (d + 1) (nI t) pl' co tt st := by
  intro d
  induction d with
  | zero =>
    intro t pl' ht h0 h1 h2 h3
    have : t = 4 * (5 + n) := by omega
    subst this
    refine br_t (nI_le (Nat.le_refl _) (by omega)) (nm_r ?_ (h pl' h1 h2))
    exact pk_sub (a := n) (b := 1) (by omega)
  | succ d ih =>
    intro t pl' ht h0 h1 h2 h3
    refine br_f (nI_ge (by omega) (by omega)) ?_
    rw [show nI t + (4 : Int32) = nI (t + 4) from nI_add t 4, nI_clamp (by omega), nI_clamp (by omega)]
    refine ⟨vp_in_nI (by omega) (by omega), vp_in_nI (by omega) (by omega), nm_e (nm_r (nI_1 t) (ih (t + 1) _ (by omega) (by omega) (fun i hi => ?_) (fun i h4 h5 => ?_) (fun i hi => ?_)))⟩
    · rw [pk_un (by omega)]; exact h1 i hi
    · by_cases e : i = t
      · subst e; rw [pk_us]; exact h3 _ (by omega)
      · rw [pk_un e]; exact h2 i h4 (by omega)
    · rw [pk_un (by omega)]; exact h3 i (by omega)
theorem yw_d20 {post : Int32 → SY → Prop} {l : Nat} (hn : n ≤ 8) (hl : l < n)
    (h : ∀ nr' nb', (∀ i, i < n - 1 → nr' i = if i < l then nr i else nr (i + 1)) → (∀ i, i < n - 1 → nb' i = if i < l then nb i else nb (i + 1)) → post (nI (n - 1)) (nI (n - 1), fp, fk, nr', nb', gu, gv, gw, gd, gx, gy, gz, gb, gt, gf)) :
    ∀ (d t : Nat) (nr' nb' : Nat → Int32), t + d = n - 1 → l ≤ t → (∀ i, i < t → nr' i = if i < l then nr i else nr (i + 1)) → (∀ i, i < t → nb' i = if i < l then nb i else nb (i + 1)) →
      (∀ i, t ≤ i → nr' i = nr i ∧ nb' i = nb i) → wY_drop_20 post (nI n) fp fk (d + 1) (nI t) nr' nb' gu gv gw gd gx gy gz gb gt gf := by
  have en : nI n - 1 = nI (n - 1) := pk_sub (a := n) (b := 1) (by omega)
  intro d
  induction d with
  | zero =>
    intro t nr' nb' ht h0 h1 h2 h3
    have : t = n - 1 := by omega
    subst this
    unfold wY_drop_20
    rw [en]
    exact br_t (nI_le (Nat.le_refl _) (by omega)) (nm_e (h nr' nb' h1 h2))
  | succ d ih =>
    intro t nr' nb' ht h0 h1 h2 h3
    unfold wY_drop_20
    rw [en]
    refine br_f (nI_ge (by omega) (by omega)) ?_
    rw [nI_1 t, nI_clamp (by omega), nI_clamp (by omega)]
    have v1 := vp_in_nI (n := t + 1) (N := 8) (by omega) (by omega)
    have v0 := vp_in_nI (n := t) (N := 8) (by omega) (by omega)
    refine ⟨v1, v0, nm_e ⟨v1, v0, nm_e (nm_e (ih (t + 1) _ _ (by omega) (by omega) (fun i hi => ?_) (fun i hi => ?_) (fun i hi => ?_)))⟩⟩
    · by_cases e : i = t
      · subst e; rw [pk_us, if_neg (by omega)]; exact (h3 _ (by omega)).1
      · rw [pk_un e]; exact h1 i (by omega)
    · by_cases e : i = t
      · subst e; rw [pk_us, if_neg (by omega)]; exact (h3 _ (by omega)).2
      · rw [pk_un e]; exact h2 i (by omega)
    · rw [pk_un (by omega), pk_un (by omega)]; exact h3 i (by omega)
/-- a cut is dropped -/
theorem rl_pop {l : Nat} {pl' nr' nb' : Nat → Int32} (h : rl_R n M D pl nr nb) (hl : l < n) (h1 : ∀ i, i < 4 * (6 + l) → pl' i = pl i) (h2 : ∀ i, 4 * (6 + l) ≤ i → i < 4 * (5 + n) → pl' i = pl (i + 4))
    (h3 : ∀ i, i < n - 1 → nr' i = if i < l then nr i else nr (i + 1)) (h4 : ∀ i, i < n - 1 → nb' i = if i < l then nb i else nb (i + 1)) :
    rl_R (n - 1) (fun i => if i < l then M i else M (i + 1)) (fun i => if i < l then D i else D (i + 1)) pl' nr' nb' := by
  obtain ⟨⟨k1, k2⟩, k3, k4⟩ := h
  refine ⟨⟨by omega, fun i hi => ?_⟩, fun i hi => ?_, fun k hk => ?_⟩
  · by_cases e : i < l
    · simp only [if_pos e]; exact k2 i (by omega)
    · simp only [if_neg e]; exact k2 (i + 1) (by omega)
  · rw [h3 i hi, h4 i hi]
    by_cases e : i < l
    · simp only [if_pos e]; exact k3 i (by omega)
    · simp only [if_neg e]; exact k3 (i + 1) (by omega)
  · by_cases e : k < 6 + l
    · rw [h1 _ (by omega), h1 _ (by omega), h1 _ (by omega), h1 _ (by omega)]
      have : rl_Q (fun i => if i < l then M i else M (i + 1)) (fun i => if i < l then D i else D (i + 1)) k = rl_Q M D k := by
        unfold rl_Q
        by_cases e6 : k < 6
        · rw [if_pos e6, if_pos e6]
        · rw [if_neg e6, if_neg e6]
          simp only [if_pos (show k - 6 < l by omega)]
      rw [this]
      exact k4 k (by omega)
    · rw [h2 _ (by omega) (by omega), h2 _ (by omega) (by omega), h2 _ (by omega) (by omega), h2 _ (by omega) (by omega)]
      have : rl_Q (fun i => if i < l then M i else M (i + 1)) (fun i => if i < l then D i else D (i + 1)) k = rl_Q M D (k + 1) := by
        unfold rl_Q
        rw [if_neg (by omega), if_neg (by omega)]
        simp only [if_neg (show ¬ k - 6 < l by omega), show k + 1 - 6 = k - 6 + 1 by omega]
      rw [this]
      exact k4 (k + 1) (by omega)
theorem i_vc_drop {k : Nat} {u : SX} {v : SY} (I : i_Rel k u v) (hk : k + 3 ≤ 1536) (v1 : Int32) : wpX_drop (fun r u' => wpY_drop (fun r' v' => r' = r ∧ i_Rel (k + 3) u' v') v v1) u v1 := by
  obtain ⟨fc, ff, pl, co, tt, st⟩ := u
  obtain ⟨fn, fp, fk, nr, nb, gu, gv, gw, gd, gx, gy, gz, gb, gt, gf⟩ := v
  have I' := I
  obtain ⟨n, M, D, e1, e2, hR⟩ := I
  dsimp only at e1 e2 hR
  subst e1 e2
  have hn8 := hR.1.1
  unfold wpX_drop
  refine xw_isC (by omega) (fun l hl el => ?_) (fun hx => ?_)
  · subst el
    have e9 : (4 : Int32) * ((6 + nI n) - 1) = nI (4 * (5 + n)) := by
      rw [xw_66, show 6 + n = (5 + n) + 1 by omega, nI_pred, xw_4]
    refine br_f (by decide) (nm_r e9 (nm_r (xw_64 l) ⟨4 * (5 + n) - 4 * (6 + l) + 1, xw_d30 hn8 hl (fun pl' g1 g2 => ?_) _ (4 * (6 + l)) pl (by omega) (by omega) (fun _ _ => rfl) (fun i h1 h2 => by omega) (fun _ _ => rfl)⟩))
    unfold wpY_drop
    refine yw_ix (c := n) (by omega) rfl (fun _ _ _ => br_f (by decide) ?_) (fun hx => absurd ⟨l, hl, rfl⟩ hx)
    refine ⟨n - 1 - l + 1, yw_d20 hn8 hl (fun nr' nb' g3 g4 => ?_) (n - 1 - l) l nr nb (by omega) (by omega) (fun i hi => by rw [if_pos hi]) (fun i hi => by rw [if_pos hi]) (fun _ _ => ⟨rfl, rfl⟩)⟩
    exact ⟨rfl, n - 1, _, _, rfl, rfl, rl_pop hR hl g1 g2 g3 g4⟩
  · refine br_t rfl ?_
    unfold wpY_drop
    exact yw_ix (c := n) (by omega) rfl (fun j hj ej => absurd ⟨j, hj, ej⟩ hx) (fun _ => br_t rfl ⟨rfl, I'⟩)

/-- the same corners from the same planes under other numbers -/
theorem gm_Vt_map {Q Q' : Nat → gm_V} {ac ac' : Nat → Prop} (h1 : ∀ i, ac i → ∃ j, ac' j ∧ Q' j = Q i) (h2 : ∀ j, ac' j → ∃ i, ac i ∧ Q i = Q' j) {p : gm_V} (h : gm_Vt Q ac p) : gm_Vt Q' ac' p := by
  obtain ⟨⟨hw, hin, i, j, k, hi, hj, hk, hd, ei, ej, ek⟩, hg⟩ := h
  obtain ⟨i', ai, qi⟩ := h1 i hi
  obtain ⟨j', aj, qj⟩ := h1 j hj
  obtain ⟨k', ak, qk⟩ := h1 k hk
  refine ⟨⟨hw, fun t ht => ?_, i', j', k', ai, aj, ak, ?_, ?_, ?_, ?_⟩, hg⟩
  · obtain ⟨s, hs, e⟩ := h2 t ht
    rw [← e]; exact hin s hs
  · rw [qi, qj, qk]; exact hd
  · rw [qi]; exact ei
  · rw [qj]; exact ej
  · rw [qk]; exact ek
theorem rl_wo_vt {l m : Nat} (hl : l < m + 1) (p : gm_V) : gm_Vt Q (fun p => p < m + 1 ∧ ¬ p = l) p ↔ gm_Vt (rl_wo Q l) (fun p => p < m) p := by
  have h1 : ∀ i, (i < m + 1 ∧ ¬ i = l) → ∃ j, j < m ∧ rl_wo Q l j = Q i := by
    intro i hi
    by_cases e : i < l
    · exact ⟨i, by omega, if_pos e⟩
    · refine ⟨i - 1, by omega, ?_⟩
      unfold rl_wo
      rw [if_neg (by omega), show i - 1 + 1 = i by omega]
  have h2 : ∀ j, j < m → ∃ i, (i < m + 1 ∧ ¬ i = l) ∧ Q i = rl_wo Q l j := by
    intro j hj
    unfold rl_wo
    by_cases e : j < l
    · exact ⟨j, by omega, by rw [if_pos e]⟩
    · exact ⟨j + 1, by omega, by rw [if_neg e]⟩
  exact ⟨gm_Vt_map h1 h2, gm_Vt_map h2 h1⟩
theorem xw_nl29 {post : Int32 → SX → Prop} {l : Nat} (hP : xw_C pl n Q) (hn : n ≤ 16) (hl : l < n) (ok : gm_ok (Q l)) (hC : xw_C co c f) (hc : c ≤ 32) (hb : ∀ k, k < c → gm_bd (f k))
    (h1 : (∀ k, k < c → gm_ev (Q l) (f k) ≤ 0) → post 1 (fc, nI c, pl, co, tt, st)) (h0 : ¬ (∀ k, k < c → gm_ev (Q l) (f k) ≤ 0) → post 0 (fc, nI c, pl, co, tt, st)) :
    ∀ d k : Nat, k + d = c → (∀ j, j < k → gm_ev (Q l) (f j) ≤ 0) → wX_needless_29 post (nI l) fc (nI c) pl co tt st (d + 1) (nI k) := by
  intro d
  induction d with
  | zero =>
    intro k hk hI
    have : k = c := by omega
    subst this
    exact br_t (nI_le (Nat.le_refl _) (by omega)) (h1 hI)
  | succ d ih =>
    intro k hk hI
    have eb := gm_ev_bd ok (hb k (by omega))
    refine br_f (nI_ge (by omega) (by omega)) (xw_excess hP hC hl hn (by omega) (by omega) (br_c (fun g => ?_) (fun g => ?_)))
    · have g' := (nu_le0 (by omega) (by omega)).mp g
      refine nm_r (nI_1 k) (ih (k + 1) (by omega) (fun j hj => ?_))
      by_cases e : j = k
      · subst e; exact g'
      · exact hI j (by omega)
    · exact h0 (fun z => g ((nu_le0 (by omega) (by omega)).mpr (z k (by omega))))
theorem yw_nl44 {post : Int32 → SY → Prop} {l : Nat} (hQ : yw_A gu gv gw gd (l + 1) Q) (hl : l < 16) (ok : gm_ok (Q l)) (hC : yw_A gx gy gz gb c f) (hc : c ≤ 32) (hb : ∀ k, k < c → gm_bd (f k))
    (h1 : (∀ k, k < c → gm_ev (Q l) (f k) ≤ 0) → post 1 (fn, nI (l + 1), nI c, nr, nb, gu, gv, gw, gd, gx, gy, gz, gb, gt, gf)) (h0 : ¬ (∀ k, k < c → gm_ev (Q l) (f k) ≤ 0) → post 0 (fn, nI (l + 1), nI c, nr, nb, gu, gv, gw, gd, gx, gy, gz, gb, gt, gf)) :
    ∀ d k : Nat, k + d = c → (∀ j, j < k → gm_ev (Q l) (f j) ≤ 0) → wY_needless_44 post fn (nI (l + 1)) (nI c) nr nb gu gv gw gd gx gy gz gb gt gf (d + 1) (nI k) := by
  intro d
  induction d with
  | zero =>
    intro k hk hI
    have : k = c := by omega
    subst this
    exact br_t (nI_le (Nat.le_refl _) (by omega)) (h1 hI)
  | succ d ih =>
    intro k hk hI
    have eb := gm_ev_bd ok (hb k (by omega))
    unfold wY_needless_44
    rw [nI_pred]
    refine br_f (nI_ge (by omega) (by omega)) (yw_side hQ (by omega) hC (by omega) (by omega) (by omega) ok (hb k (by omega)) (br_c (fun g => ?_) (fun g => ?_)))
    · have g' := (nu_Lle0 (by omega) (by omega)).mp g
      refine nm_r (nI_1 k) (ih (k + 1) (by omega) (fun j hj => ?_))
      by_cases e : j = k
      · subst e; exact g'
      · exact hI j (by omega)
    · exact h0 (fun z => g ((nu_Lle0 (by omega) (by omega)).mpr (z k (by omega))))
theorem i_vc_needless {k : Nat} {u : SX} {v : SY} (I : i_Rel k u v) (hk : k + 3 ≤ 1536) (v1 : Int32) : wpX_needless (fun r u' => wpY_needless (fun r' v' => r' = r ∧ i_Rel (k + 3) u' v') v v1) u v1 := by
  obtain ⟨fc, ff, pl, co, tt, st⟩ := u
  obtain ⟨fn, fp, fk, nr, nb, gu, gv, gw, gd, gx, gy, gz, gb, gt, gf⟩ := v
  have I' := I
  obtain ⟨n, M, D, e1, e2, hR⟩ := I
  dsimp only at e1 e2 hR
  subst e1 e2
  have hn8 := hR.1.1
  unfold wpX_needless
  refine xw_isC (by omega) (fun l hl el => ?_) (fun hx => ?_)
  · subst el
    have hok := fun i hi => (rl_Q_ok hR.1 i hi).1
    refine br_f (by decide) (nm_r (xw_66 l) ?_)
    rw [xw_66 n]
    refine xw_find (L := fun p => p = 6 + l) (xw_Ll (by omega) (by omega)) hR.2.2 (by omega) hok (fun c f co tt hc hL hC hT => ?_)
    have hL2 : ls_L (gm_Vt (rl_wo (rl_Q M D) (6 + l)) (fun p => p < 5 + n)) c f := by
      rw [show 6 + n = (5 + n) + 1 by omega] at hL
      exact ls_cg (rl_wo_vt (by omega)) hL
    have hbd : ∀ k, k < c → gm_bd (f k) := fun k hk => gm_vt_bd (fun i hi => hok i hi.1) (hL.1 k hk)
    have hwo : ∀ i, i < 5 + n → gm_ok (rl_wo (rl_Q M D) (6 + l) i) := by
      intro i hi
      unfold rl_wo
      split
      · exact hok i (by omega)
      · exact hok (i + 1) (by omega)
    have Y : ∀ (b : Bool) (r : Int32), (b = true → r = 1) → (b = false → r = 0) → (b = true ↔ ∀ k, k < c → gm_ev (rl_Q M D (6 + l)) (f k) ≤ 0) →
        wpY_needless (fun r' v' => r' = r ∧ i_Rel (k + 3) (nI n, nI c, pl, co, tt, st) v') (nI n, fp, fk, nr, nb, gu, gv, gw, gd, gx, gy, gz, gb, gt, gf) (nI l) := by
      intro b r rt rf hb
      unfold wpY_needless
      refine yw_ix (c := n) (by omega) rfl (fun _ _ _ => br_f (by decide) ?_) (fun hx => absurd ⟨l, hl, rfl⟩ hx)
      refine yw_setl hl hR.1 hR.2.1 (fun gu gv gw gd g1 => ?_)
      refine yw_fc2 g1 (by omega) hwo hL2 (fun gx gy gz gb gt g2 g3 => ?_)
      have vl := vp_in_nI (n := l) (N := 8) (by omega) (by omega)
      obtain ⟨a1, a2⟩ := hR.2.1 l hl
      obtain ⟨m1, m2, m3, m4⟩ := hR.1.2 l hl
      refine ⟨vl, vl, ?_⟩
      rw [nI_clamp (by omega), a1, a2]
      have eQ : rl_Q M D (6 + l) = rl_ct (M l) (D l) := by
        unfold rl_Q
        rw [if_neg (by omega), show 6 + l - 6 = l by omega]
      refine yw_addN (m := 5 + n) (Q := fun i => if i < 5 + n then rl_wo (rl_Q M D) (6 + l) i else rl_ct (M l) (D l)) m1 (by omega) (yw_A_cg g1 (fun k hk => (if_pos hk).symm)) (if_neg (by omega)) (fun gu gv gw gd g4 => ?_)
      have eQ2 : (if 5 + n < 5 + n then rl_wo (rl_Q M D) (6 + l) (5 + n) else rl_ct (M l) (D l)) = rl_Q M D (6 + l) := by
        rw [eQ]; exact if_neg (by omega)
      refine ⟨c + 1, yw_nl44 (Q := fun i => if i < 5 + n then rl_wo (rl_Q M D) (6 + l) i else rl_ct (M l) (D l)) g4 (by omega) (by rw [eQ2]; exact hok _ (by omega)) g2 hc hbd (fun z => ?_) (fun z => ?_) c 0 (by omega) (fun j hj => by omega)⟩
      · rw [eQ2] at z
        exact ⟨(rt (hb.mpr z)).symm, n, M, D, rfl, rfl, hR⟩
      · rw [eQ2] at z
        refine ⟨(rf ?_).symm, n, M, D, rfl, rfl, hR⟩
        cases b
        · rfl
        · exact absurd (hb.mp rfl) z
    refine ⟨c + 1, xw_nl29 hR.2.2 (by omega) (by omega) (hok _ (by omega)) hC hc hbd (fun z => Y true 1 (fun _ => rfl) (fun e => by cases e) ⟨fun _ => z, fun _ => rfl⟩)
      (fun z => Y false 0 (fun e => by cases e) (fun _ => rfl) ⟨fun e => (by cases e), fun z' => absurd z' z⟩) c 0 (by omega) (fun j hj => by omega)⟩
  · refine br_t rfl ?_
    unfold wpY_needless
    exact yw_ix (c := n) (by omega) rfl (fun j hj ej => absurd ⟨j, hj, ej⟩ hx) (fun _ => br_t rfl ⟨rfl, I'⟩)
/-- the planes of a section -/
def rl_se (Q : Nat → gm_V) (m a : Nat) (d : Int) : Nat → gm_V := fun i => if i < m then Q i else if i = m then rl_ax a 1 d else rl_ax a (-1) (-d)
theorem rl_ax_ok {a : Nat} {s d : Int} (h1 : -1 ≤ s) (h2 : s ≤ 1) (h3 : -8 ≤ d) (h4 : d ≤ 8) : gm_ok (rl_ax a s d) := by
  simp only [gm_ok, rl_ax]
  refine ⟨?_, ?_, ?_, ?_⟩
  · split <;> omega
  · split <;> omega
  · split <;> omega
  · omega
theorem i_vc_section {k : Nat} {u : SX} {v : SY} (I : i_Rel k u v) (hk : k + 3 ≤ 1536) (v1 : Int32) (v2 : Int32) : wpX_section (fun r u' => wpY_section (fun r' v' => r' = r ∧ i_Rel (k + 3) u' v') v v1 v2) u v1 v2 := by
  obtain ⟨fc, ff, pl, co, tt, st⟩ := u
  obtain ⟨fn, fp, fk, nr, nb, gu, gv, gw, gd, gx, gy, gz, gb, gt, gf⟩ := v
  have I' := I
  obtain ⟨n, M, D, e1, e2, hR⟩ := I
  dsimp only at e1 e2 hR
  subst e1 e2
  have hn8 := hR.1.1
  unfold wpX_section
  refine xw_isA (fun a ha ea => ?_) (fun hx => ?_)
  · subst ea
    have inA : ∀ {post : Int32 → Prop}, post 1 → wpY_in post (nI n, fp, fk, nr, nb, gu, gv, gw, gd, gx, gy, gz, gb, gt, gf) (nI a) 0 2 := fun h => yw_ix (c := 3) (by omega) (by decide) (fun _ _ _ => h) (fun hx => absurd ⟨a, ha, rfl⟩ hx)
    refine br_f (by decide) (br_c (fun g => ?_) (fun g => br_c (fun b => ?_) (fun b => ?_)))
    · unfold wpY_section
      exact inA (br_f (by decide) (br_t g (br_t rfl ⟨rfl, I'⟩)))
    · have b0 : (-8 : Int32) ≤ v2 := Int32.not_lt.mp g
      have d1 : -8 ≤ v2.toInt := by
        have := Int32.le_iff_toInt_le.mp b0
        rwa [show (-8 : Int32).toInt = -8 by decide] at this
      have d2 : v2.toInt ≤ 8 := by
        have := Int32.le_iff_toInt_le.mp b
        rwa [show (8 : Int32).toInt = 8 by decide] at this
      have ev : v2 = nu_I v2.toInt := nu_of v2
      have en : -v2 = nu_I (-v2.toInt) := by rw [← nu_neg, ← ev]
      generalize v2.toInt = d at *
      have q0 : rl_se (rl_Q M D) (6 + n) a d (6 + n) = rl_ax a 1 d := by
        unfold rl_se
        rw [if_neg (by omega), if_pos rfl]
      have q1 : rl_se (rl_Q M D) (6 + n) a d (6 + n + 1) = rl_ax a (-1) (-d) := by
        unfold rl_se
        rw [if_neg (by omega), if_neg (by omega)]
      have ql : ∀ i, i < 6 + n → rl_Q M D i = rl_se (rl_Q M D) (6 + n) a d i := fun i hi => (if_pos hi).symm
      have hok : ∀ i, i < 6 + n + 1 + 1 → gm_ok (rl_se (rl_Q M D) (6 + n) a d i) := by
        intro i hi
        by_cases e : i < 6 + n
        · rw [← ql i e]; exact (rl_Q_ok hR.1 i e).1
        · by_cases e2 : i = 6 + n
          · subst e2; rw [q0]; exact rl_ax_ok (by omega) (by omega) d1 d2
          · have : i = 6 + n + 1 := by omega
            subst this; rw [q1]; exact rl_ax_ok (by omega) (by omega) (by omega) (by omega)
      refine nm_r (xw_66 n) (xw_across (s := 1) (d := d) (by decide) ev (by omega) ha (fun pl1 h1 => ?_))
      dsimp only
      rw [xw_a1 (6 + n), xw_a2 (6 + n)]
      refine xw_across (s := -1) (d := -d) (by decide) en (by omega) ha (fun pl2 h2 => ?_)
      have hC2 : xw_C pl2 (6 + n + 1 + 1) (rl_se (rl_Q M D) (6 + n) a d) := xw_ap_C h2 (xw_ap_C h1 (xw_C_cg hR.2.2 ql) q0) q1
      have hR2 : rl_R n M D pl2 nr nb := ⟨hR.1, hR.2.1, xw_ap_lo h2 (by omega) (xw_ap_lo h1 (by omega) hR.2.2)⟩
      refine xw_find (xw_L0 (n := 6 + n + 1 + 1) (by omega)) hC2 (by omega) hok (fun c f co tt hc hL hC hT => ?_)
      rw [xw_ac0] at hL
      unfold wpY_section
      refine inA (br_f (by decide) (br_f g (br_f (Int32.not_lt.mpr b) (br_f (by decide) ?_))))
      refine yw_set hR.1 hR.2.1 (fun gu gv gw gd g1 => ?_)
      refine yw_addA (s := 1) (d := d) (by decide) ev ha (by omega) (yw_A_cg g1 ql) q0 (fun gu gv gw gd g2 => ?_)
      refine yw_addA (s := -1) (d := -d) (by decide) en ha (by omega) g2 q1 (fun gu gv gw gd g3 => ?_)
      exact yw_fc2 g3 (by omega) hok hL (fun gx gy gz gb gt _ _ => ⟨rfl, n, M, D, rfl, rfl, hR2⟩)
    · unfold wpY_section
      exact inA (br_f (by decide) (br_f g (br_t (Int32.not_le.mp b) (br_t rfl ⟨rfl, I'⟩))))
  · refine br_t rfl ?_
    unfold wpY_section
    exact yw_ix (c := 3) (by omega) (by decide) (fun j hj ej => absurd ⟨j, hj, ej⟩ hx) (fun _ => br_t rfl ⟨rfl, I'⟩)
end
end
section
/-! mostTop, mostBottom -/
section
variable {fc ff : Int32} {pl co tt st : Nat → Int32} {Q f : Nat → gm_V} {n c : Nat} {M : Nat → Nat} {D : Nat → Int}
variable {fn fp fk : Int32} {nr nb gu gv gw gd gx gy gz gb gt gf : Nat → Int32}
def mo_s (q p : gm_V) : Nat → Int
  | 0 => 0
  | t + 1 => mo_s q p t + gm_c q t * gm_c p t
theorem mo_s3 (m : Nat) (p : gm_V) : mo_s (rl_ct m 0) p 3 = gm_ev (rl_ct m 0) p := by
  simp only [mo_s, gm_c, gm_ev, rl_ct]
  grind
theorem xw_val5 {post : Int32 → Prop} {m k : Nat} (hM : m ≤ 728) (hC : xw_C co c f) (hc : c ≤ 32) (hk : k < c) (h : post (nu_I (gm_ev (rl_ct m 0) (f k)))) :
    ∀ d t : Nat, t + d = 3 → wX_valueTop_5 post (nI m) (nI k) fc ff pl co tt st (d + 1) (nu_I (mo_s (rl_ct m 0) (f k) t)) (nI t) := by
  intro d
  induction d with
  | zero =>
    intro t ht
    have : t = 3 := by omega
    subst this
    rw [mo_s3]
    exact br_t (by decide) h
  | succ d ih =>
    intro t ht
    refine br_f (nI_ge (b := 3) (by omega) (by decide)) (xw_part (d := 0) hM (by omega) ?_)
    rw [xw_4, nI_add, nI_clamp (by omega), xw_Ca hC hk (show t < 4 by omega), nu_mul, nu_add]
    exact ⟨vp_in_nI (by omega) (by omega), nm_e (nm_r (nI_1 t) (ih (t + 1) (by omega)))⟩
theorem xw_val {post : Int32 → Prop} {m k : Nat} (hM : m ≤ 728) (hC : xw_C co c f) (hc : c ≤ 32) (hk : k < c) (h : post (nu_I (gm_ev (rl_ct m 0) (f k)))) :
    wpX_valueTop post (fc, ff, pl, co, tt, st) (nI m) (nI k) := by
  have := xw_val5 (fc := fc) (ff := ff) (pl := pl) (tt := tt) (st := st) hM hC hc hk h 3 0 (by omega)
  rw [show nu_I (mo_s (rl_ct m 0) (f k) 0) = 0 from nu_0.symm] at this
  exact ⟨4, this⟩
/-- the first of the farthest -/
def mo_b (v w : Nat → Int) : Nat → Nat
  | 0 => 0
  | k + 1 => if v (mo_b v w k) * w k < v k * w (mo_b v w k) then k else mo_b v w k
theorem mo_b_lt (v w : Nat → Int) : ∀ k, mo_b v w (k + 1) ≤ k := by
  intro k
  induction k with
  | zero => unfold mo_b; split <;> simp [mo_b]
  | succ k ih =>
    rw [mo_b]
    split
    · omega
    · omega
theorem mo_b_1 (v w : Nat → Int) : mo_b v w 1 = 0 := by
  have : mo_b v w 1 ≤ 0 := mo_b_lt v w 0
  omega
theorem mo_v_bd {m : Nat} (hM : m ≤ 728) {p : gm_V} (hb : gm_bd p) : -92160 ≤ gm_ev (rl_ct m 0) p ∧ gm_ev (rl_ct m 0) p ≤ 92160 := gm_ev_bd (rl_ct_ok hM (by omega) (by omega)) hb
theorem xw_far12 {post : Int32 → Prop} {m : Nat} (hM : m ≤ 728) (hC : xw_C co c f) (hc : c ≤ 32) (hb : ∀ k, k < c → gm_bd (f k))
    (h : post (nI (mo_b (fun k => gm_ev (rl_ct m 0) (f k)) (fun k => (f k).2.2.2) c))) :
    ∀ d k : Nat, k + d = c → 1 ≤ k → wX_farthestCorner_12 post (nI m) fc (nI c) pl co tt st (d + 1) (nI (mo_b (fun k => gm_ev (rl_ct m 0) (f k)) (fun k => (f k).2.2.2) k))
      (nu_I (gm_ev (rl_ct m 0) (f (mo_b (fun k => gm_ev (rl_ct m 0) (f k)) (fun k => (f k).2.2.2) k)))) (nI k) := by
  intro d
  induction d with
  | zero =>
    intro k hk _
    have : k = c := by omega
    subst this
    exact br_t (nI_le (Nat.le_refl _) (by omega)) h
  | succ d ih =>
    intro k hk h1
    obtain ⟨k', rfl⟩ : ∃ k', k = k' + 1 := ⟨k - 1, by omega⟩
    have hl := mo_b_lt (fun k => gm_ev (rl_ct m 0) (f k)) (fun k => (f k).2.2.2) k'
    have hs : mo_b (fun k => gm_ev (rl_ct m 0) (f k)) (fun k => (f k).2.2.2) (k' + 1 + 1) = if gm_ev (rl_ct m 0) (f (mo_b (fun k => gm_ev (rl_ct m 0) (f k)) (fun k => (f k).2.2.2) (k' + 1))) * (f (k' + 1)).2.2.2
        < gm_ev (rl_ct m 0) (f (k' + 1)) * (f (mo_b (fun k => gm_ev (rl_ct m 0) (f k)) (fun k => (f k).2.2.2) (k' + 1))).2.2.2 then k' + 1 else mo_b (fun k => gm_ev (rl_ct m 0) (f k)) (fun k => (f k).2.2.2) (k' + 1) := by
      rw [mo_b]
    have ihk := ih (k' + 1 + 1) (by omega) (by omega)
    generalize mo_b (fun k => gm_ev (rl_ct m 0) (f k)) (fun k => (f k).2.2.2) (k' + 1) = b at *
    have b1 := mo_v_bd hM (hb b (by omega))
    have b2 := mo_v_bd hM (hb (k' + 1) (by omega))
    have b3 := (hb b (by omega)).2.2.2
    have b4 := (hb (k' + 1) (by omega)).2.2.2
    have p1 := nu_pb (A := 92160) (B := 384) b2.1 b2.2 b3.1 b3.2
    have p2 := nu_pb (A := 92160) (B := 384) b1.1 b1.2 b4.1 b4.2
    refine br_f (nI_ge (by omega) (by omega)) (xw_val hM hC hc (by omega) ?_)
    rw [xw_4, xw_4, xw_a3, xw_a3, nI_clamp (by omega), nI_clamp (by omega), (hC b (by omega)).2.2.2, (hC (k' + 1) (by omega)).2.2.2, nu_mul, nu_mul]
    refine ⟨vp_in_nI (by omega) (by omega), vp_in_nI (by omega) (by omega), br_c (fun g => ?_) (fun g => ?_)⟩
    · have g' := (nu_le (by omega) (by omega) (by omega) (by omega)).mp g
      rw [if_neg (by omega)] at hs
      rw [hs] at ihk
      exact nm_r (nI_1 _) ihk
    · have g' := (not_congr (nu_le (by omega) (by omega) (by omega) (by omega))).mp g
      rw [if_pos (by omega)] at hs
      rw [hs] at ihk
      exact nm_r (nI_1 _) ihk
theorem xw_far {post : Int32 → Prop} {m : Nat} (hM : m ≤ 728) (hC : xw_C co c f) (hc : c ≤ 32) (h0 : c ≠ 0) (hb : ∀ k, k < c → gm_bd (f k))
    (h : post (nI (mo_b (fun k => gm_ev (rl_ct m 0) (f k)) (fun k => (f k).2.2.2) c))) : wpX_farthestCorner post (fc, nI c, pl, co, tt, st) (nI m) := by
  have := xw_far12 (fc := fc) (pl := pl) (tt := tt) (st := st) hM hC hc hb h (c - 1) 1 (by omega) (by omega)
  rw [mo_b_1] at this
  unfold wpX_farthestCorner
  exact xw_val (k := 0) hM hC hc (by omega) ⟨_, this⟩
theorem yw_best22 {post : Int32 → SY → Prop} {m p : Nat} (hM : m ≤ 728) (hp : p < 16) (hQ : yw_A gu gv gw gd (p + 1) Q) (hq : Q p = rl_ct m 0) (hC : yw_A gx gy gz gb c f) (hc : c ≤ 32) (hb : ∀ k, k < c → gm_bd (f k))
    (h : post (nI (mo_b (fun k => gm_ev (rl_ct m 0) (f k)) (fun k => (f k).2.2.2) c)) (fn, fp, nI c, nr, nb, gu, gv, gw, gd, gx, gy, gz, gb, gt, gf)) :
    ∀ d k : Nat, k + d = c → 1 ≤ k → wY_best_22 post (nI p) fn fp (nI c) nr nb gu gv gw gd gx gy gz gb gt gf (d + 1) (nI (mo_b (fun k => gm_ev (rl_ct m 0) (f k)) (fun k => (f k).2.2.2) k)) (nI k) := by
  intro d
  induction d with
  | zero =>
    intro k hk _
    have : k = c := by omega
    subst this
    exact br_t (nI_le (Nat.le_refl _) (by omega)) h
  | succ d ih =>
    intro k hk h1
    obtain ⟨k', rfl⟩ : ∃ k', k = k' + 1 := ⟨k - 1, by omega⟩
    have hl := mo_b_lt (fun k => gm_ev (rl_ct m 0) (f k)) (fun k => (f k).2.2.2) k'
    have hs : mo_b (fun k => gm_ev (rl_ct m 0) (f k)) (fun k => (f k).2.2.2) (k' + 1 + 1) = if gm_ev (rl_ct m 0) (f (mo_b (fun k => gm_ev (rl_ct m 0) (f k)) (fun k => (f k).2.2.2) (k' + 1))) * (f (k' + 1)).2.2.2
        < gm_ev (rl_ct m 0) (f (k' + 1)) * (f (mo_b (fun k => gm_ev (rl_ct m 0) (f k)) (fun k => (f k).2.2.2) (k' + 1))).2.2.2 then k' + 1 else mo_b (fun k => gm_ev (rl_ct m 0) (f k)) (fun k => (f k).2.2.2) (k' + 1) := by
      rw [mo_b]
    have ihk := ih (k' + 1 + 1) (by omega) (by omega)
    generalize mo_b (fun k => gm_ev (rl_ct m 0) (f k)) (fun k => (f k).2.2.2) (k' + 1) = b at *
    have b1 := mo_v_bd hM (hb b (by omega))
    have b2 := mo_v_bd hM (hb (k' + 1) (by omega))
    have b3 := (hb b (by omega)).2.2.2
    have b4 := (hb (k' + 1) (by omega)).2.2.2
    have p1 := nu_pb (A := 92160) (B := 384) b2.1 b2.2 b3.1 b3.2
    have p2 := nu_pb (A := 92160) (B := 384) b1.1 b1.2 b4.1 b4.2
    have ok : gm_ok (Q p) := by rw [hq]; exact rl_ct_ok hM (by omega) (by omega)
    refine br_f (nI_ge (by omega) (by omega)) (br_f (nI_pos (by omega)) (yw_side hQ (by omega) hC (by omega) (by omega) (by omega) ok (hb _ (by omega)) ⟨vp_in_nI (by omega) (by omega), ?_⟩))
    refine yw_side hQ (by omega) hC (by omega) (by omega) (by omega) ok (hb _ (by omega)) ⟨vp_in_nI (by omega) (by omega), ?_⟩
    rw [nI_clamp (by omega), nI_clamp (by omega), (hC b (by omega)).2.2.2, (hC (k' + 1) (by omega)).2.2.2, nu_64 (by omega) (by omega), nu_64 (by omega) (by omega), nu_Lmul, nu_Lmul, hq]
    refine br_c (fun g => ?_) (fun g => ?_)
    · have g' := (nu_Lle (by omega) (by omega) (by omega) (by omega)).mp g
      rw [if_neg (by omega)] at hs
      rw [hs] at ihk
      exact nm_r (nI_1 _) ihk
    · have g' := (not_congr (nu_Lle (by omega) (by omega) (by omega) (by omega))).mp g
      rw [if_pos (by omega)] at hs
      rw [hs] at ihk
      exact nm_r (nI_1 _) ihk
theorem yw_best {post : Int32 → SY → Prop} {m : Nat} (hM : m ≤ 728) (hR : rl_R n M D pl nr nb) (hL : ls_L (gm_Vt (rl_Q M D) (fun p => p < 6 + n)) c f) (hc : c ≤ 32) (hb : ∀ k, k < c → gm_bd (f k))
    (h0 : c = 0 → ∀ fp gu gv gw gd gx gy gz gb gt, post (-1) (nI n, fp, nI c, nr, nb, gu, gv, gw, gd, gx, gy, gz, gb, gt, gf))
    (h : c ≠ 0 → ∀ gu gv gw gd gx gy gz gb gt Q, yw_A gu gv gw gd (6 + n + 1) Q → Q (6 + n) = rl_ct m 0 → yw_A gx gy gz gb c f →
      post (nI (mo_b (fun k => gm_ev (rl_ct m 0) (f k)) (fun k => (f k).2.2.2) c)) (nI n, nI (6 + n + 1), nI c, nr, nb, gu, gv, gw, gd, gx, gy, gz, gb, gt, gf)) : wpY_best post (nI n, fp, fk, nr, nb, gu, gv, gw, gd, gx, gy, gz, gb, gt, gf) (nI m) := by
  have hn8 := hR.1.1
  unfold wpY_best
  refine yw_find2 hR hL (fun gu gv gw gd gx gy gz gb gt g1 g2 g3 => ?_)
  have hq : (fun i => if i < 6 + n then rl_Q M D i else rl_ct m 0) (6 + n) = rl_ct m 0 := if_neg (by omega)
  dsimp only
  rw [nu_0]
  refine yw_addN (m := 6 + n) (Q := fun i => if i < 6 + n then rl_Q M D i else rl_ct m 0) hM (by omega) (yw_A_cg g1 (fun k hk => (if_pos hk).symm)) hq (fun gu gv gw gd g4 => ?_)
  rw [← nu_0]
  refine nm_r (nI_pred _) ?_
  by_cases e : c = 0
  · subst e
    exact ⟨1, br_t (nI_le (a := 0) (b := 0) (by omega) (by omega)) (h0 rfl _ _ _ _ _ _ _ _ _ _)⟩
  · have := yw_best22 (fn := nI n) (fp := nI (6 + n + 1)) (nr := nr) (nb := nb) (gt := gt) (gf := gf) hM (by omega) g4 hq g2 hc hb (h e _ _ _ _ _ _ _ _ _ _ g4 hq g2) (c - 1) 1 (by omega) (by omega)
    rw [mo_b_1] at this
    exact ⟨c - 1 + 1 + 1, br_f (nI_ge (a := 0) (by omega) (by omega)) (br_t (by decide) (nm_r (nI_1 0) this))⟩
/-- top or bottom of the farthest corner's value -/
def mo_g (m : Nat) (p : gm_V) : Nat := Nat.gcd p.2.2.2.natAbs (gm_ev (rl_ct m 0) p).natAbs
theorem mo_g_bd {m : Nat} {p : gm_V} (hw : 0 < p.2.2.2) : 0 < mo_g m p ∧ mo_g m p ≤ p.2.2.2.natAbs :=
  ⟨Nat.gcd_pos_of_pos_left _ (by omega), Nat.le_of_dvd (by omega) (Nat.gcd_dvd_left _ _)⟩
theorem yw_m85 {post : Int32 → SY → Prop} {g : Nat} {x : Int} (h0 : 0 < g) (h1 : g ≤ 384) (x1 : -92160 ≤ x) (x2 : x ≤ 92160) (h : post (nu_I (x.tdiv g)) (fn, fp, fk, nr, nb, gu, gv, gw, gd, gx, gy, gz, gb, gt, gf)) : wY_most_85 post (nI g) (nu_I x) fn fp fk nr nb gu gv gw gd gx gy gz gb gt gf := by
  refine br_t (nI_le (a := 1) h0 (by omega)) ⟨nI_ne0 h0 (by omega), ?_⟩
  rw [nu_nI, nu_div (by omega) (by omega) (by omega) (by omega)]
  exact h
theorem yw_most {post : Int32 → SY → Prop} {m : Nat} {tp : Int32} (hM : m < 729) (hR : rl_R n M D pl nr nb) (hL : ls_L (gm_Vt (rl_Q M D) (fun p => p < 6 + n)) c f) (hc : c ≤ 32) (hb : ∀ k, k < c → gm_bd (f k)) (hw : ∀ k, k < c → 0 < (f k).2.2.2)
    (h0 : c = 0 → ∀ fp gu gv gw gd gx gy gz gb gt, post (-1000002) (nI n, fp, nI c, nr, nb, gu, gv, gw, gd, gx, gy, gz, gb, gt, gf))
    (h1 : c ≠ 0 → ¬ tp = 0 → ∀ fp gu gv gw gd gx gy gz gb gt p, p = f (mo_b (fun k => gm_ev (rl_ct m 0) (f k)) (fun k => (f k).2.2.2) c) → post (nu_I ((gm_ev (rl_ct m 0) p).tdiv (mo_g m p))) (nI n, fp, nI c, nr, nb, gu, gv, gw, gd, gx, gy, gz, gb, gt, gf))
    (h2 : c ≠ 0 → tp = 0 → ∀ fp gu gv gw gd gx gy gz gb gt p, p = f (mo_b (fun k => gm_ev (rl_ct m 0) (f k)) (fun k => (f k).2.2.2) c) → post (nu_I (p.2.2.2.tdiv (mo_g m p))) (nI n, fp, nI c, nr, nb, gu, gv, gw, gd, gx, gy, gz, gb, gt, gf)) :
    wpY_most post (nI n, fp, fk, nr, nb, gu, gv, gw, gd, gx, gy, gz, gb, gt, gf) (nI m) tp := by
  have hn8 := hR.1.1
  unfold wpY_most
  refine yw_ix (c := 729) (by omega) (by decide) (fun _ _ _ => br_f (by decide) ?_) (fun hx => absurd ⟨m, hM, rfl⟩ hx)
  refine yw_best (by omega) hR hL hc hb (fun e fp gu gv gw gd gx gy gz gb gt => ?_) (fun e gu gv gw gd gx gy gz gb gt Q g1 g2 g3 => ?_)
  · exact br_f (by decide) (h0 e _ _ _ _ _ _ _ _ _ _)
  · obtain ⟨k', rfl⟩ : ∃ k', c = k' + 1 := ⟨c - 1, by omega⟩
    have hl := mo_b_lt (fun k => gm_ev (rl_ct m 0) (f k)) (fun k => (f k).2.2.2) k'
    have H1 := fun tn fp gu gv gw gd gx gy gz gb gt => h1 e tn fp gu gv gw gd gx gy gz gb gt _ rfl
    have H2 := fun tn fp gu gv gw gd gx gy gz gb gt => h2 e tn fp gu gv gw gd gx gy gz gb gt _ rfl
    generalize mo_b (fun k => gm_ev (rl_ct m 0) (f k)) (fun k => (f k).2.2.2) (k' + 1) = b at *
    have hbb := hb b (by omega)
    have b1 := mo_v_bd (show m ≤ 728 by omega) hbb
    have b3 := hbb.2.2.2
    have w0 := hw b (by omega)
    have hg := mo_g_bd (m := m) w0
    have vb := vp_in_nI (n := b) (N := 40) (by omega) (by omega)
    have y3 := (g3 b (by omega)).2.2.2
    have ok : gm_ok (Q (6 + n)) := by rw [g2]; exact rl_ct_ok (by omega) (by omega) (by omega)
    have W : wY_most_68 post tp (nI b) (nu_I (gm_ev (rl_ct m 0) (f b))) (nI (mo_g m (f b))) (nI n) (nI (6 + n + 1)) (nI (k' + 1)) nr nb gu gv gw gd gx gy gz gb gt gf := by
      refine br_c (fun t => ⟨vb, ?_⟩) (fun t => ?_)
      · rw [nI_clamp (by omega), y3]
        exact yw_m85 hg.1 (by omega) (by omega) (by omega) (H2 t _ _ _ _ _ _ _ _ _ _)
      · exact yw_m85 hg.1 (by omega) (by omega) (by omega) (H1 t _ _ _ _ _ _ _ _ _ _)
    refine br_t (nI_pos' (by omega)) ?_
    rw [nI_pred]
    refine yw_side g1 (by omega) g3 (by omega) (by omega) (by omega) ok hbb ?_
    rw [g2, nu_32, nI_clamp (by omega), y3]
    refine br_c (fun z => ⟨vb, ?_⟩) (fun z => ⟨vb, ?_⟩)
    · have z' := (nu_eq0 (by omega) (by omega)).mp z
      have eg : nu_I (f b).2.2.2 = nI (mo_g m (f b)) := by
        rw [nu_nI]
        unfold mo_g
        rw [z', Int.natAbs_zero, Nat.gcd_zero_right]
        congr 1
        omega
      rw [eg]
      exact W
    · refine yw_common (by omega) (by omega) ?_
      rw [Nat.gcd_comm]
      have : Nat.gcd (f b).2.2.2.natAbs (gm_ev (rl_ct m 0) (f b)).natAbs = mo_g m (f b) := rfl
      rw [this, if_neg (by omega)]
      exact W
theorem i_vc_mostTop {k : Nat} {u : SX} {v : SY} (I : i_Rel k u v) (hk : k + 3 ≤ 1536) (v1 : Int32) : wpX_mostTop (fun r u' => wpY_mostTop (fun r' v' => r' = r ∧ i_Rel (k + 3) u' v') v v1) u v1 := by
  obtain ⟨fc, ff, pl, co, tt, st⟩ := u
  obtain ⟨fn, fp, fk, nr, nb, gu, gv, gw, gd, gx, gy, gz, gb, gt, gf⟩ := v
  have I' := I
  obtain ⟨n, M, D, e1, e2, hR⟩ := I
  dsimp only at e1 e2 hR
  subst e1 e2
  have hn8 := hR.1.1
  unfold wpX_mostTop
  refine xw_isN (fun m hm em => ?_) (fun hx => ?_)
  · subst em
    refine br_f (by decide) (xw_body hR (fun c f co tt hc hL hC hT => ?_))
    have hbd : ∀ k, k < c → gm_bd (f k) := fun k hk => gm_vt_bd (fun i hi => (rl_Q_ok hR.1 i hi).1) (hL.1 k hk)
    have hw : ∀ k, k < c → 0 < (f k).2.2.2 := fun k hk => (hL.1 k hk).1.1
    by_cases e : c = 0
    · refine br_t (by rw [e]; rfl) ?_
      unfold wpY_mostTop
      exact yw_most hm hR hL hc hbd hw (fun _ fp gu gv gw gd gx gy gz gb gt => ⟨rfl, n, M, D, rfl, rfl, hR⟩) (fun z => absurd e z) (fun z => absurd e z)
    · refine br_f (nI_ne0 (by omega) (by omega)) (xw_far (by omega) hC hc e hbd ?_)
      obtain ⟨k', rfl⟩ : ∃ k', c = k' + 1 := ⟨c - 1, by omega⟩
      have hl := mo_b_lt (fun k => gm_ev (rl_ct m 0) (f k)) (fun k => (f k).2.2.2) k'
      have hbb := hbd (mo_b (fun k => gm_ev (rl_ct m 0) (f k)) (fun k => (f k).2.2.2) (k' + 1)) (by omega)
      have b1 := mo_v_bd (show m ≤ 728 by omega) hbb
      have b3 := hbb.2.2.2
      have w0 := hw (mo_b (fun k => gm_ev (rl_ct m 0) (f k)) (fun k => (f k).2.2.2) (k' + 1)) (by omega)
      have hg := mo_g_bd (m := m) w0
      refine xw_val (by omega) hC hc (by omega) ?_
      rw [xw_4, xw_a3, nI_clamp (by omega), (hC _ (show mo_b (fun k => gm_ev (rl_ct m 0) (f k)) (fun k => (f k).2.2.2) (k' + 1) < k' + 1 by omega)).2.2.2]
      refine ⟨vp_in_nI (by omega) (by omega), xw_gcd (by omega) (by omega) ?_⟩
      have eg : Nat.gcd (f (mo_b (fun k => gm_ev (rl_ct m 0) (f k)) (fun k => (f k).2.2.2) (k' + 1))).2.2.2.natAbs (gm_ev (rl_ct m 0) (f (mo_b (fun k => gm_ev (rl_ct m 0) (f k)) (fun k => (f k).2.2.2) (k' + 1)))).natAbs
        = mo_g m (f (mo_b (fun k => gm_ev (rl_ct m 0) (f k)) (fun k => (f k).2.2.2) (k' + 1))) := rfl
      rw [eg, nu_div (by omega) (by omega) (by omega) (by omega)]
      refine ⟨fun z => ?_, ?_⟩
      · have := (nu_eq0 (by omega) (by omega)).mp z
        omega
      · unfold wpY_mostTop
        exact yw_most hm hR hL hc hbd hw (fun z => absurd z e) (fun _ _ fp gu gv gw gd gx gy gz gb gt p hp => by subst hp; exact ⟨rfl, n, M, D, rfl, rfl, hR⟩) (fun _ z => absurd z (by decide))
  · refine br_t rfl ?_
    unfold wpY_mostTop wpY_most
    exact yw_ix (c := 729) (by omega) (by decide) (fun j hj ej => absurd ⟨j, hj, ej⟩ hx) (fun _ => br_t rfl ⟨rfl, I'⟩)
theorem i_vc_mostBottom {k : Nat} {u : SX} {v : SY} (I : i_Rel k u v) (hk : k + 3 ≤ 1536) (v1 : Int32) : wpX_mostBottom (fun r u' => wpY_mostBottom (fun r' v' => r' = r ∧ i_Rel (k + 3) u' v') v v1) u v1 := by
  obtain ⟨fc, ff, pl, co, tt, st⟩ := u
  obtain ⟨fn, fp, fk, nr, nb, gu, gv, gw, gd, gx, gy, gz, gb, gt, gf⟩ := v
  have I' := I
  obtain ⟨n, M, D, e1, e2, hR⟩ := I
  dsimp only at e1 e2 hR
  subst e1 e2
  have hn8 := hR.1.1
  unfold wpX_mostBottom
  refine xw_isN (fun m hm em => ?_) (fun hx => ?_)
  · subst em
    refine br_f (by decide) (xw_body hR (fun c f co tt hc hL hC hT => ?_))
    have hbd : ∀ k, k < c → gm_bd (f k) := fun k hk => gm_vt_bd (fun i hi => (rl_Q_ok hR.1 i hi).1) (hL.1 k hk)
    have hw : ∀ k, k < c → 0 < (f k).2.2.2 := fun k hk => (hL.1 k hk).1.1
    by_cases e : c = 0
    · refine br_t (by rw [e]; rfl) ?_
      unfold wpY_mostBottom
      exact yw_most hm hR hL hc hbd hw (fun _ fp gu gv gw gd gx gy gz gb gt => ⟨rfl, n, M, D, rfl, rfl, hR⟩) (fun z => absurd e z) (fun z => absurd e z)
    · refine br_f (nI_ne0 (by omega) (by omega)) (xw_far (by omega) hC hc e hbd ?_)
      obtain ⟨k', rfl⟩ : ∃ k', c = k' + 1 := ⟨c - 1, by omega⟩
      have hl := mo_b_lt (fun k => gm_ev (rl_ct m 0) (f k)) (fun k => (f k).2.2.2) k'
      have hbb := hbd (mo_b (fun k => gm_ev (rl_ct m 0) (f k)) (fun k => (f k).2.2.2) (k' + 1)) (by omega)
      have b1 := mo_v_bd (show m ≤ 728 by omega) hbb
      have b3 := hbb.2.2.2
      have w0 := hw (mo_b (fun k => gm_ev (rl_ct m 0) (f k)) (fun k => (f k).2.2.2) (k' + 1)) (by omega)
      have hg := mo_g_bd (m := m) w0
      refine xw_val (by omega) hC hc (by omega) ?_
      rw [xw_4, xw_a3, nI_clamp (by omega), (hC _ (show mo_b (fun k => gm_ev (rl_ct m 0) (f k)) (fun k => (f k).2.2.2) (k' + 1) < k' + 1 by omega)).2.2.2]
      refine ⟨vp_in_nI (by omega) (by omega), nm_e (xw_gcd (by omega) (by omega) ?_)⟩
      have eg : Nat.gcd (f (mo_b (fun k => gm_ev (rl_ct m 0) (f k)) (fun k => (f k).2.2.2) (k' + 1))).2.2.2.natAbs (gm_ev (rl_ct m 0) (f (mo_b (fun k => gm_ev (rl_ct m 0) (f k)) (fun k => (f k).2.2.2) (k' + 1)))).natAbs
        = mo_g m (f (mo_b (fun k => gm_ev (rl_ct m 0) (f k)) (fun k => (f k).2.2.2) (k' + 1))) := rfl
      rw [eg, nu_div (by omega) (by omega) (by omega) (by omega)]
      refine ⟨fun z => ?_, ?_⟩
      · have := (nu_eq0 (by omega) (by omega)).mp z
        omega
      · unfold wpY_mostBottom
        exact yw_most hm hR hL hc hbd hw (fun z => absurd z e) (fun _ z => absurd rfl z) (fun _ _ fp gu gv gw gd gx gy gz gb gt p hp => by subst hp; exact ⟨rfl, n, M, D, rfl, rfl, hR⟩)
  · refine br_t rfl ?_
    unfold wpY_mostBottom wpY_most
    exact yw_ix (c := 729) (by omega) (by decide) (fun j hj ej => absurd ⟨j, hj, ej⟩ hx) (fun _ => br_t rfl ⟨rfl, I'⟩)
end
end
section
/-! whole: the same points counted in two orders -/
section
theorem wh_enum (P : Nat → Prop) : ∀ N : Nat, ∃ g : Nat → Nat, (∀ t, t < gm_cn P N → g t < N ∧ P (g t)) ∧ (∀ s t, s < t → t < gm_cn P N → g s ≠ g t) ∧ ∀ k, k < N → P k → ∃ t, t < gm_cn P N ∧ g t = k := by
  intro N
  induction N with
  | zero => exact ⟨fun _ => 0, fun t ht => absurd ht (Nat.not_lt_zero t), fun s t _ ht => absurd ht (Nat.not_lt_zero t), fun k hk => by omega⟩
  | succ N ih =>
    obtain ⟨g, h1, h2, h3⟩ := ih
    by_cases p : P N
    · rw [gm_cn_t p]
      refine ⟨fun t => if t = gm_cn P N then N else g t, fun t ht => ?_, fun s t hst ht => ?_, fun k hk pk => ?_⟩
      · by_cases e : t = gm_cn P N
        · simp only [if_pos e]; exact ⟨by omega, p⟩
        · simp only [if_neg e]
          have := h1 t (by omega)
          exact ⟨by omega, this.2⟩
      · simp only [if_neg (show ¬ s = gm_cn P N by omega)]
        by_cases e : t = gm_cn P N
        · simp only [if_pos e]
          have := (h1 s (by omega)).1
          omega
        · simp only [if_neg e]; exact h2 s t hst (by omega)
      · by_cases e : k = N
        · subst e; exact ⟨gm_cn P k, by omega, if_pos rfl⟩
        · obtain ⟨t, ht, et⟩ := h3 k (by omega) pk
          exact ⟨t, by omega, by show (if t = gm_cn P N then N else g t) = k; rw [if_neg (by omega)]; exact et⟩
    · rw [gm_cn_f p]
      refine ⟨g, fun t ht => ?_, h2, fun k hk pk => ?_⟩
      · have := h1 t ht
        exact ⟨by omega, this.2⟩
      · by_cases e : k = N
        · subst e; exact absurd pk p
        · exact h3 k (by omega) pk
theorem wh_perm {P P' : Nat → Prop} {N : Nat} (s : Nat → Nat) (h1 : ∀ i, i < N → s i < N) (h2 : ∀ i, i < N → s (s i) = i) (h3 : ∀ i, i < N → (P i ↔ P' (s i))) : gm_cn P N = gm_cn P' N := by
  obtain ⟨g, g1, g2, g3⟩ := wh_enum P N
  refine (sh_cn_bij N (fun t => s (g t)) (gm_cn P N) P' (fun t ht => ?_) (fun a b hab hb e => ?_) (fun k hk pk => ?_)).symm
  · obtain ⟨a, b⟩ := g1 t ht
    exact ⟨h1 _ a, (h3 _ a).mp b⟩
  · apply g2 a b hab hb
    have := congrArg s e
    rwa [h2 _ (g1 a (by omega)).1, h2 _ (g1 b hb).1] at this
  · obtain ⟨t, ht, e⟩ := g3 (s k) (h1 k hk) ((h3 _ (h1 k hk)).mpr (by rw [h2 k hk]; exact pk))
    refine ⟨t, ht, ?_⟩
    show s (g t) = k
    rw [e, h2 k hk]
theorem gm_cn_cg {P P' : Nat → Prop} {N : Nat} (h : ∀ i, i < N → (P i ↔ P' i)) : gm_cn P N = gm_cn P' N := by
  have a := gm_cn_le (P := P) (P' := P') N (fun i hi => (h i hi).mp)
  have b := gm_cn_le (P := P') (P' := P) N (fun i hi => (h i hi).mpr)
  omega

variable {fc ff : Int32} {pl co tt st : Nat → Int32} {Q f : Nat → gm_V} {n c : Nat} {M : Nat → Nat} {D : Nat → Int}
variable {fn fp fk : Int32} {nr nb gu gv gw gd gx gy gz gb gt gf : Nat → Int32}
theorem wh_bd {a : gm_V} (ok : gm_ok a) {x y z : Int} (hx : -8 ≤ x ∧ x ≤ 8) (hy : -8 ≤ y ∧ y ≤ 8) (hz : -8 ≤ z ∧ z ≤ 8) :
    (-96 ≤ a.1 * x + a.2.1 * y + a.2.2.1 * z ∧ a.1 * x + a.2.1 * y + a.2.2.1 * z ≤ 96) ∧ (gm_ev a (x, y, z, 1) ≤ 0 ↔ a.1 * x + a.2.1 * y + a.2.2.1 * z ≤ a.2.2.2) := by
  obtain ⟨a1, a2, a3, a4⟩ := ok
  have p1 := nu_pb (A := 4) (B := 8) a1.1 a1.2 hx.1 hx.2
  have p2 := nu_pb (A := 4) (B := 8) a2.1 a2.2 hy.1 hy.2
  have p3 := nu_pb (A := 4) (B := 8) a3.1 a3.2 hz.1 hz.2
  refine ⟨⟨by omega, by omega⟩, ?_⟩
  simp only [gm_ev]
  omega
theorem xw_hold3 {post : Int32 → Prop} {x y z : Int} (hP : xw_C pl (6 + n) Q) (hn : n ≤ 8) (hok : ∀ i, i < 6 + n → gm_ok (Q i)) (hx : -8 ≤ x ∧ x ≤ 8) (hy : -8 ≤ y ∧ y ≤ 8) (hz : -8 ≤ z ∧ z ≤ 8)
    (h1 : (∀ i, i < n → gm_ev (Q (6 + i)) (x, y, z, 1) ≤ 0) → post 1) (h0 : ¬ (∀ i, i < n → gm_ev (Q (6 + i)) (x, y, z, 1) ≤ 0) → post 0) :
    ∀ d i : Nat, i + d = n → (∀ j, j < i → gm_ev (Q (6 + j)) (x, y, z, 1) ≤ 0) → wX_cutsHold_3 post (nu_I x) (nu_I y) (nu_I z) (nI n) ff pl co tt st (d + 1) (nI i) := by
  intro d
  induction d with
  | zero =>
    intro i hi hI
    have : i = n := by omega
    subst this
    exact br_t (nI_le (Nat.le_refl _) (by omega)) (h1 hI)
  | succ d ih =>
    intro i hi hI
    have v : ∀ x : Nat, x < 64 → vp_in (nI x) 64 := fun x hx => vp_in_nI hx (by omega)
    obtain ⟨q0, q1, q2, q3⟩ := hP (6 + i) (by omega)
    have ok := hok (6 + i) (by omega)
    obtain ⟨b1, b2⟩ := wh_bd ok hx hy hz
    have b3 := ok.2.2.2
    refine br_f (nI_ge (by omega) (by omega)) (nm_r (xw_64 i) ?_)
    rw [xw_a1, xw_a2, xw_a3, nI_clamp (by omega), nI_clamp (by omega), nI_clamp (by omega), nI_clamp (by omega), q0, q1, q2, q3, nu_mul, nu_mul, nu_mul, nu_add, nu_add]
    refine ⟨v _ (by omega), v _ (by omega), v _ (by omega), v _ (by omega), br_c (fun g => ?_) (fun g => ?_)⟩
    · have g' := b2.mpr ((nu_le (by omega) (by omega) (by omega) (by omega)).mp g)
      refine nm_r (nI_1 i) (ih (i + 1) (by omega) (fun j hj => ?_))
      by_cases e : j = i
      · subst e; exact g'
      · exact hI j (by omega)
    · exact h0 (fun w => g ((nu_le (by omega) (by omega) (by omega) (by omega)).mpr (b2.mp (w i (by omega)))))
theorem xw_hold {post : Int32 → Prop} {x y z : Int} (hP : xw_C pl (6 + n) Q) (hn : n ≤ 8) (hok : ∀ i, i < 6 + n → gm_ok (Q i)) (hx : -8 ≤ x ∧ x ≤ 8) (hy : -8 ≤ y ∧ y ≤ 8) (hz : -8 ≤ z ∧ z ≤ 8)
    (h1 : (∀ i, i < n → gm_ev (Q (6 + i)) (x, y, z, 1) ≤ 0) → post 1) (h0 : ¬ (∀ i, i < n → gm_ev (Q (6 + i)) (x, y, z, 1) ≤ 0) → post 0) :
    wpX_cutsHold post (nI n, ff, pl, co, tt, st) (nu_I x) (nu_I y) (nu_I z) := ⟨n + 1, xw_hold3 hP hn hok hx hy hz h1 h0 n 0 (by omega) (fun j hj => by omega)⟩
theorem yw_isIn3 {post : Int32 → Prop} {x y z : Int} (hQ : yw_A gu gv gw gd n Q) (hn : n ≤ 16) (hok : ∀ i, i < n → gm_ok (Q i)) (hx : -8 ≤ x ∧ x ≤ 8) (hy : -8 ≤ y ∧ y ≤ 8) (hz : -8 ≤ z ∧ z ≤ 8)
    (h1 : (∀ i, i < n → gm_ev (Q i) (x, y, z, 1) ≤ 0) → post 1) (h0 : ¬ (∀ i, i < n → gm_ev (Q i) (x, y, z, 1) ≤ 0) → post 0) :
    ∀ d i : Nat, i + d = n → (∀ j, j < i → gm_ev (Q j) (x, y, z, 1) ≤ 0) → wY_isIn_3 post (nu_I x) (nu_I y) (nu_I z) fn (nI n) fk nr nb gu gv gw gd gx gy gz gb gt gf (d + 1) (nI i) := by
  intro d
  induction d with
  | zero =>
    intro i hi hI
    have : i = n := by omega
    subst this
    exact br_t (nI_le (Nat.le_refl _) (by omega)) (h1 hI)
  | succ d ih =>
    intro i hi hI
    have v := vp_in_nI (n := i) (N := 16) (by omega) (by omega)
    obtain ⟨q0, q1, q2, q3⟩ := hQ i (by omega)
    have ok := hok i (by omega)
    obtain ⟨b1, b2⟩ := wh_bd ok hx hy hz
    have b3 := ok.2.2.2
    refine br_f (nI_ge (by omega) (by omega)) ⟨v, v, v, v, ?_⟩
    rw [nI_clamp (by omega), q0, q1, q2, q3, nu_mul, nu_mul, nu_mul, nu_add, nu_add]
    refine br_c (fun g => ?_) (fun g => ?_)
    · have g' := b2.mpr ((nu_le (by omega) (by omega) (by omega) (by omega)).mp g)
      refine nm_r (nI_1 i) (ih (i + 1) (by omega) (fun j hj => ?_))
      by_cases e : j = i
      · subst e; exact g'
      · exact hI j (by omega)
    · exact h0 (fun w => g ((nu_le (by omega) (by omega) (by omega) (by omega)).mpr (b2.mp (w i (by omega)))))
/-- the point with number q, x first -/
def wh_H (Q : Nat → gm_V) (n q : Nat) : Prop := ∀ i, i < n → gm_ev (Q (6 + i)) ((q / 289 : Nat) - 8, (q / 17 % 17 : Nat) - 8, (q % 17 : Nat) - 8, 1) ≤ 0
def wh_K (Q : Nat → gm_V) (n q : Nat) : Prop := ∀ i, i < n → gm_ev (Q i) ((q % 17 : Nat) - 8, (q / 17 % 17 : Nat) - 8, (q / 289 : Nat) - 8, 1) ≤ 0
theorem wh_8 (a : Nat) : nu_I ((a : Nat) - 8) + 1 = nu_I (((a + 1 : Nat) : Int) - 8) := by
  rw [show (1 : Int32) = nu_I 1 by decide, nu_add]
  congr 1
  omega
theorem xw_wh24 {post : Int32 → Prop} {J5 J14 : Int32 → Int32 → Prop} {a b : Nat} (hP : xw_C pl (6 + n) Q) (hn : n ≤ 8) (hok : ∀ i, i < 6 + n → gm_ok (Q i)) (ha : a < 17) (hb : b < 17)
    (h : J14 (nI (gm_cn (wh_H Q n) (289 * a + 17 * (b + 1)))) (nu_I (((b + 1 : Nat) : Int) - 8))) :
    ∀ d t : Nat, t + d = 17 → wX_whole_24 post J5 J14 (nu_I ((a : Int) - 8)) (nu_I ((b : Int) - 8)) (nI n) ff pl co tt st (d + 1) (nI (gm_cn (wh_H Q n) (289 * a + 17 * b + t))) (nu_I ((t : Int) - 8)) := by
  intro d
  induction d with
  | zero =>
    intro t ht
    have : t = 17 := by omega
    subst this
    refine br_t (by decide) (nm_r (wh_8 b) ?_)
    rw [show 289 * a + 17 * b + 17 = 289 * a + 17 * (b + 1) by omega]
    exact h
  | succ d ih =>
    intro t ht
    have hH : wh_H Q n (289 * a + 17 * b + t) ↔ ∀ i, i < n → gm_ev (Q (6 + i)) ((a : Int) - 8, (b : Int) - 8, (t : Int) - 8, 1) ≤ 0 := by
      unfold wh_H
      rw [show (289 * a + 17 * b + t) / 289 = a by omega, show (289 * a + 17 * b + t) / 17 % 17 = b by omega, show (289 * a + 17 * b + t) % 17 = t by omega]
    have hlt : ¬ (8 : Int32) < nu_I ((t : Int) - 8) := by
      rw [show (8 : Int32) = nu_I 8 by decide, nu_lt (by omega) (by omega) (by omega) (by omega)]
      omega
    have nx := ih (t + 1) (by omega)
    refine br_f hlt (xw_hold hP hn hok (by omega) (by omega) (by omega) (fun g => ?_) (fun g => ?_))
    · rw [show 289 * a + 17 * b + (t + 1) = (289 * a + 17 * b + t) + 1 by omega, gm_cn_t (hH.mpr g)] at nx
      exact br_f (by decide) (nm_r (nI_1 _) (nm_r (wh_8 t) nx))
    · rw [show 289 * a + 17 * b + (t + 1) = (289 * a + 17 * b + t) + 1 by omega, gm_cn_f (fun z => g (hH.mp z))] at nx
      exact br_t rfl (nm_r (wh_8 t) nx)
theorem xw_wh14 {post : Int32 → Prop} {J5 : Int32 → Int32 → Prop} {a : Nat} (hP : xw_C pl (6 + n) Q) (hn : n ≤ 8) (hok : ∀ i, i < 6 + n → gm_ok (Q i)) (ha : a < 17)
    (h : J5 (nI (gm_cn (wh_H Q n) (289 * (a + 1)))) (nu_I (((a + 1 : Nat) : Int) - 8))) :
    ∀ d b : Nat, b + d = 17 → wX_whole_14 post J5 (nu_I ((a : Int) - 8)) (nI n) ff pl co tt st (d + 1) (nI (gm_cn (wh_H Q n) (289 * a + 17 * b))) (nu_I ((b : Int) - 8)) := by
  intro d
  induction d with
  | zero =>
    intro b hb
    have : b = 17 := by omega
    subst this
    refine br_t (by decide) (nm_r (wh_8 a) ?_)
    rw [show 289 * a + 17 * 17 = 289 * (a + 1) by omega]
    exact h
  | succ d ih =>
    intro b hb
    have hlt : ¬ (8 : Int32) < nu_I ((b : Int) - 8) := by
      rw [show (8 : Int32) = nu_I 8 by decide, nu_lt (by omega) (by omega) (by omega) (by omega)]
      omega
    refine br_f hlt ⟨18, ?_⟩
    have := xw_wh24 (post := post) (J5 := J5) (J14 := wX_whole_14 post J5 (nu_I ((a : Int) - 8)) (nI n) ff pl co tt st (d + 1)) (ff := ff) (co := co) (tt := tt) (st := st) hP hn hok ha (show b < 17 by omega) (ih (b + 1) (by omega)) 17 0 (by omega)
    exact this
theorem xw_wh5 {post : Int32 → Prop} (hP : xw_C pl (6 + n) Q) (hn : n ≤ 8) (hok : ∀ i, i < 6 + n → gm_ok (Q i)) (h : post (nI (gm_cn (wh_H Q n) 4913))) :
    ∀ d a : Nat, a + d = 17 → wX_whole_5 post (nI n) ff pl co tt st (d + 1) (nI (gm_cn (wh_H Q n) (289 * a))) (nu_I ((a : Int) - 8)) := by
  intro d
  induction d with
  | zero =>
    intro a ha
    have : a = 17 := by omega
    subst this
    exact br_t (by decide) h
  | succ d ih =>
    intro a ha
    have hlt : ¬ (8 : Int32) < nu_I ((a : Int) - 8) := by
      rw [show (8 : Int32) = nu_I 8 by decide, nu_lt (by omega) (by omega) (by omega) (by omega)]
      omega
    refine br_f hlt ⟨18, ?_⟩
    have := xw_wh14 (post := post) (J5 := wX_whole_5 post (nI n) ff pl co tt st (d + 1)) (ff := ff) (co := co) (tt := tt) (st := st) hP hn hok (show a < 17 by omega) (ih (a + 1) (by omega)) 17 0 (by omega)
    exact this
theorem yw_17 {q : Nat} (hq : q < 4913) : (nI q - nI q / 17 * 17) - 8 = nu_I ((q % 17 : Nat) - 8) := by
  rw [show (17 : Int32) = nI 17 from rfl, pk_rem (by omega) (by omega) (by omega), show (8 : Int32) = nu_I 8 by decide, nu_nI, nu_sub]
theorem yw_1717 {q : Nat} (hq : q < 4913) : ((nI q / 17) - (nI q / 17) / 17 * 17) - 8 = nu_I ((q / 17 % 17 : Nat) - 8) := by
  rw [show (17 : Int32) = nI 17 from rfl, pk_div (by omega) (by omega) (by omega), pk_rem (by omega) (by omega) (by omega), show (8 : Int32) = nu_I 8 by decide, nu_nI, nu_sub]
theorem yw_289 {q : Nat} (hq : q < 4913) : (nI q / 289) - 8 = nu_I ((q / 289 : Nat) - 8) := by
  rw [show (289 : Int32) = nI 289 from rfl, pk_div (by omega) (by omega) (by omega), show (8 : Int32) = nu_I 8 by decide, nu_nI, nu_sub]
theorem yw_wh9 {post : Int32 → SY → Prop} (hQ : yw_A gu gv gw gd n Q) (hn : n ≤ 16) (hok : ∀ i, i < n → gm_ok (Q i)) (h : post (nI (gm_cn (wh_K Q n) 4913)) (fn, nI n, fk, nr, nb, gu, gv, gw, gd, gx, gy, gz, gb, gt, gf)) :
    ∀ d q : Nat, q + d = 4913 → wY_whole_9 post fn (nI n) fk nr nb gu gv gw gd gx gy gz gb gt gf (d + 1) (nI (gm_cn (wh_K Q n) q)) (nI q) := by
  intro d
  induction d with
  | zero =>
    intro q hq
    have : q = 4913 := by omega
    subst this
    exact br_t (by decide) h
  | succ d ih =>
    intro q hq
    refine br_f (nI_ge (b := 4913) (by omega) (by decide)) ⟨by decide, by decide, by decide, by decide, ?_⟩
    rw [yw_17 (by omega), yw_1717 (by omega), yw_289 (by omega)]
    have nx := ih (q + 1) (by omega)
    refine ⟨n + 1, yw_isIn3 hQ hn hok (by omega) (by omega) (by omega) (fun g => ?_) (fun g => ?_) n 0 (by omega) (fun j hj => by omega)⟩
    · rw [gm_cn_t (P := wh_K Q n) g] at nx
      exact br_f (by decide) (nm_r (nI_1 _) (nm_r (nI_1 q) nx))
    · rw [gm_cn_f (P := wh_K Q n) g] at nx
      exact br_t rfl (nm_r (nI_1 q) nx)
theorem wh_box {x y z : Int} (hx : -8 ≤ x ∧ x ≤ 8) (hy : -8 ≤ y ∧ y ≤ 8) (hz : -8 ≤ z ∧ z ≤ 8) : ∀ i, i < 6 → gm_ev (gm_bx i) (x, y, z, 1) ≤ 0 := by
  intro i hi
  have : i = 0 ∨ i = 1 ∨ i = 2 ∨ i = 3 ∨ i = 4 ∨ i = 5 := by omega
  rcases this with e | e | e | e | e | e <;> subst e <;> simp only [gm_ev, gm_bx] <;> omega
theorem wh_eq : gm_cn (wh_H (rl_Q M D) n) 4913 = gm_cn (wh_K (rl_Q M D) (6 + n)) 4913 := by
  refine wh_perm (fun q => 289 * (q % 17) + 17 * (q / 17 % 17) + q / 289) (fun i hi => by omega) (fun i hi => ?_) (fun i hi => ?_)
  · have e1 : (289 * (i % 17) + 17 * (i / 17 % 17) + i / 289) % 17 = i / 289 := by omega
    have e2 : (289 * (i % 17) + 17 * (i / 17 % 17) + i / 289) / 17 % 17 = i / 17 % 17 := by omega
    have e3 : (289 * (i % 17) + 17 * (i / 17 % 17) + i / 289) / 289 = i % 17 := by omega
    show 289 * ((289 * (i % 17) + 17 * (i / 17 % 17) + i / 289) % 17) + 17 * ((289 * (i % 17) + 17 * (i / 17 % 17) + i / 289) / 17 % 17) + (289 * (i % 17) + 17 * (i / 17 % 17) + i / 289) / 289 = i
    rw [e1, e2, e3]
    omega
  have e1 : (289 * (i % 17) + 17 * (i / 17 % 17) + i / 289) % 17 = i / 289 := by omega
  have e2 : (289 * (i % 17) + 17 * (i / 17 % 17) + i / 289) / 17 % 17 = i / 17 % 17 := by omega
  have e3 : (289 * (i % 17) + 17 * (i / 17 % 17) + i / 289) / 289 = i % 17 := by omega
  unfold wh_H wh_K
  rw [e1, e2, e3]
  constructor
  · intro h j hj
    by_cases e : j < 6
    · rw [rl_Q6 j e]
      exact wh_box (by omega) (by omega) (by omega) j e
    · have := h (j - 6) (by omega)
      rwa [show 6 + (j - 6) = j by omega] at this
  · intro h j hj
    exact h (6 + j) (by omega)
theorem i_vc_whole {k : Nat} {u : SX} {v : SY} (I : i_Rel k u v) (hk : k + 3 ≤ 1536) : wpX_whole (fun r => wpY_whole (fun r' v' => r' = r ∧ i_Rel (k + 3) u v') v) u := by
  obtain ⟨fc, ff, pl, co, tt, st⟩ := u
  obtain ⟨fn, fp, fk, nr, nb, gu, gv, gw, gd, gx, gy, gz, gb, gt, gf⟩ := v
  obtain ⟨n, M, D, e1, e2, hR⟩ := I
  dsimp only at e1 e2 hR
  subst e1 e2
  have hn8 := hR.1.1
  have hok := fun i hi => (rl_Q_ok hR.1 i hi).1
  unfold wpX_whole
  refine ⟨18, ?_⟩
  have := xw_wh5 (ff := ff) (co := co) (tt := tt) (st := st) hR.2.2 hn8 hok (post := fun r => wpY_whole (fun r' v' => r' = r ∧ i_Rel (k + 3) (nI n, ff, pl, co, tt, st) v') (nI n, fp, fk, nr, nb, gu, gv, gw, gd, gx, gy, gz, gb, gt, gf)) ?_ 17 0 (by omega)
  · exact this
  · unfold wpY_whole
    refine yw_set hR.1 hR.2.1 (fun gu gv gw gd g1 => ?_)
    refine ⟨4914, yw_wh9 g1 (by omega) hok ⟨?_, n, M, D, rfl, rfl, hR⟩ 4913 0 (by omega)⟩
    rw [wh_eq]
end
end
section
/-! The reference's rank, and dimensions -/
section
variable {fc ff : Int32} {pl co tt st : Nat → Int32} {Q f : Nat → gm_V} {n c : Nat} {M : Nat → Nat} {D : Nat → Int} {P : Nat → Prop}
variable {fn fp fk : Int32} {nr nb gu gv gw gd gx gy gz gb gt gf : Nat → Int32}
theorem rk_cr_bd {a b : gm_V} (ha : gm_ok a) (hb : gm_ok b) : (-32 ≤ (gm_cr a b).1 ∧ (gm_cr a b).1 ≤ 32) ∧ (-32 ≤ (gm_cr a b).2.1 ∧ (gm_cr a b).2.1 ≤ 32) ∧ (-32 ≤ (gm_cr a b).2.2.1 ∧ (gm_cr a b).2.2.1 ≤ 32) := by
  obtain ⟨a1, a2, a3, _⟩ := ha
  obtain ⟨b1, b2, b3, _⟩ := hb
  have p1 := nu_pb (A := 4) (B := 4) a2.1 a2.2 b3.1 b3.2
  have p2 := nu_pb (A := 4) (B := 4) a3.1 a3.2 b2.1 b2.2
  have p3 := nu_pb (A := 4) (B := 4) a3.1 a3.2 b1.1 b1.2
  have p4 := nu_pb (A := 4) (B := 4) a1.1 a1.2 b3.1 b3.2
  have p5 := nu_pb (A := 4) (B := 4) a1.1 a1.2 b2.1 b2.2
  have p6 := nu_pb (A := 4) (B := 4) a2.1 a2.2 b1.1 b1.2
  simp only [gm_cr]
  omega
theorem rk_dt_bd {a b d : gm_V} (ha : gm_ok a) (hb : gm_ok b) (hd : gm_ok d) : -384 ≤ gm_dt a b d ∧ gm_dt a b d ≤ 384 := (gm_cp_bd ha hb hd).2.2.2
/-- what the reference's loop knows before plane s -/
def rk_I (Q : Nat → gm_V) (P : Nat → Prop) (s : Nat) (x y : Int32) : Prop :=
  (x = -1 ∧ y = -1 ∧ ∀ i, i < s → ¬ P i) ∨
  (∃ p, x = nI p ∧ y = -1 ∧ p < s ∧ P p ∧ ∀ i, i < s → P i → gm_cr (Q p) (Q i) = (0, 0, 0, 0)) ∨
  (∃ p q, x = nI p ∧ y = nI q ∧ p < s ∧ q < s ∧ P p ∧ P q ∧ gm_cr (Q p) (Q q) ≠ (0, 0, 0, 0) ∧ ∀ i, i < s → P i → gm_dt (Q p) (Q q) (Q i) = 0)
theorem rk_dt_cr0 {a b d : gm_V} (h : gm_cr a d = (0, 0, 0, 0)) : gm_dt a b d = 0 := by
  simp only [gm_cr, Prod.mk.injEq] at h
  obtain ⟨h1, h2, h3, _⟩ := h
  simp only [gm_dt]; grind
theorem rk_dt_b (a b : gm_V) : gm_dt a b b = 0 := by simp only [gm_dt]; grind
theorem yw_rank7 {post : Int32 → Prop} {m : Nat} (hQ : yw_A gu gv gw gd n Q) (hn : n ≤ 16) (hok : ∀ i, i < n → gm_ok (Q i)) (hm : nu_ms m n P) (h : ∀ r, rk_is Q (fun i => i < n ∧ P i) r → post (nI r)) :
    ∀ (d s : Nat) (x y : Int32), s + d = n → rk_I Q P s x y → wY_rank_7 post (nI m) fn (nI n) fk nr nb gu gv gw gd gx gy gz gb gt gf (d + 1) x y (nI s) := by
  intro d
  induction d with
  | zero =>
    intro s x y hs hI
    have : s = n := by omega
    subst this
    refine br_t (nI_le (Nat.le_refl _) (by omega)) ?_
    rcases hI with ⟨rfl, rfl, h1⟩ | ⟨p, rfl, rfl, h1, h2, h3⟩ | ⟨p, q, rfl, rfl, h1, h2, h3, h4, h5, h6⟩
    · exact br_f (by decide) (h 0 (.inl ⟨rfl, fun i hi => h1 i hi.1 hi.2⟩))
    · exact br_t (nI_pos' (by omega)) (br_f (by decide) (h 1 (.inr (.inl ⟨rfl, p, ⟨h1, h2⟩, fun i hi => h3 i hi.1 hi.2⟩))))
    · exact br_t (nI_pos' (by omega)) (br_t (nI_pos' (by omega)) (h 2 (.inr (.inr (.inl ⟨rfl, p, q, ⟨h1, h3⟩, ⟨h2, h4⟩, h5, fun i hi => h6 i hi.1 hi.2⟩)))))
  | succ d ih =>
    intro s x y hs hI
    have hb := nx_bit1 hm hn (show s < n by omega)
    refine br_f (nI_ge (by omega) (by omega)) ?_
    by_cases ps : P s
    · refine br_t (hb.1 ps) ?_
      rcases hI with ⟨rfl, rfl, h1⟩ | ⟨p, rfl, rfl, h1, h2, h3⟩ | ⟨p, q, rfl, rfl, h1, h2, h3, h4, h5, h6⟩
      · refine br_f (by decide) (nm_r (nI_1 s) (ih (s + 1) _ _ (by omega) (.inr (.inl ⟨s, rfl, rfl, by omega, ps, fun i hi pi => ?_⟩))))
        by_cases e : i = s
        · subst e; simp only [gm_cr, Prod.mk.injEq]; refine ⟨?_, ?_, ?_, by trivial⟩ <;> grind
        · exact absurd pi (h1 i (by omega))
      · have B := rk_cr_bd (hok p (by omega)) (hok s (by omega))
        have N : gm_cr (Q p) (Q s) ≠ (0, 0, 0, 0) → ∀ z, z = nI s + 1 → wY_rank_7 post (nI m) fn (nI n) fk nr nb gu gv gw gd gx gy gz gb gt gf (d + 1) (nI p) (nI s) z := by
          intro hc
          refine nm_r (nI_1 s) (ih (s + 1) _ _ (by omega) (.inr (.inr ⟨p, s, rfl, rfl, by omega, by omega, h2, ps, hc, fun i hi pi => ?_⟩)))
          by_cases e : i = s
          · subst e; exact rk_dt_b _ _
          · exact rk_dt_cr0 (h3 i (by omega) pi)
        refine br_t (nI_pos' (by omega)) (br_f (by decide) (yw_cr0 hQ hn (by omega) (by omega) (br_c (fun e0 => ?_) (fun e0 => ?_))))
        · have z0 := (nu_eq0 (by omega) (by omega)).mp e0
          refine yw_cr1 hQ hn (by omega) (by omega) (br_c (fun e1 => ?_) (fun e1 => ?_))
          · have z1 := (nu_eq0 (by omega) (by omega)).mp e1
            refine yw_cr2 hQ hn (by omega) (by omega) (br_c (fun e2 => ?_) (fun e2 => ?_))
            · have z2 := (nu_eq0 (by omega) (by omega)).mp e2
              refine br_t (by decide) (nm_r (nI_1 s) (ih (s + 1) _ _ (by omega) (.inr (.inl ⟨p, rfl, rfl, by omega, h2, fun i hi pi => ?_⟩))))
              by_cases e : i = s
              · subst e; exact Prod.ext z0 (Prod.ext z1 (Prod.ext z2 rfl))
              · exact h3 i (by omega) pi
            · exact N (fun z => e2 (by rw [z]; rfl))
          · exact N (fun z => e1 (by rw [z]; rfl))
        · exact N (fun z => e0 (by rw [z]; rfl))
      · have B := rk_dt_bd (hok p (by omega)) (hok q (by omega)) (hok s (by omega))
        refine br_t (nI_pos' (by omega)) (br_t (nI_pos' (by omega)) (br_f (nI_pos (by omega)) (yw_det hQ hn (by omega) (by omega) (by omega) (br_c (fun e => ?_) (fun e => ?_)))))
        · have z := (nu_eq0 (by omega) (by omega)).mp e
          refine nm_r (nI_1 s) (ih (s + 1) _ _ (by omega) (.inr (.inr ⟨p, q, rfl, rfl, by omega, by omega, h3, h4, h5, fun i hi pi => ?_⟩)))
          by_cases e : i = s
          · subst e; exact z
          · exact h6 i (by omega) pi
        · have z := (not_congr (nu_eq0 (by omega) (by omega))).mp e
          exact h 3 (.inr (.inr (.inr ⟨rfl, p, q, s, ⟨by omega, h3⟩, ⟨by omega, h4⟩, ⟨by omega, ps⟩, z⟩)))
    · refine br_f (by rw [hb.2 ps]; decide) (nm_r (nI_1 s) (ih (s + 1) _ _ (by omega) ?_))
      rcases hI with ⟨e1, e2, h1⟩ | ⟨p, e1, e2, h1, h2, h3⟩ | ⟨p, q, e1, e2, h1, h2, h3, h4, h5, h6⟩
      · refine .inl ⟨e1, e2, fun i hi => ?_⟩
        by_cases e : i = s
        · subst e; exact ps
        · exact h1 i (by omega)
      · refine .inr (.inl ⟨p, e1, e2, by omega, h2, fun i hi pi => ?_⟩)
        by_cases e : i = s
        · subst e; exact absurd pi ps
        · exact h3 i (by omega) pi
      · refine .inr (.inr ⟨p, q, e1, e2, by omega, by omega, h3, h4, h5, fun i hi pi => ?_⟩)
        by_cases e : i = s
        · subst e; exact absurd pi ps
        · exact h6 i (by omega) pi
theorem yw_rank {post : Int32 → Prop} {m : Nat} (hQ : yw_A gu gv gw gd n Q) (hn : n ≤ 16) (hok : ∀ i, i < n → gm_ok (Q i)) (hm : nu_ms m n P) (h : ∀ r, rk_is Q (fun i => i < n ∧ P i) r → post (nI r)) :
    wpY_rank post (fn, nI n, fk, nr, nb, gu, gv, gw, gd, gx, gy, gz, gb, gt, gf) (nI m) := ⟨n + 1, yw_rank7 hQ hn hok hm h n 0 (-1) (-1) (by omega) (.inl ⟨rfl, rfl, fun i hi => by omega⟩)⟩
theorem rk_cg {S S' : Nat → Prop} {r : Nat} (e : ∀ i, S i ↔ S' i) (h : rk_is Q S r) : rk_is Q S' r := by
  have : S = S' := funext fun i => propext (e i)
  rw [← this]; exact h
theorem nu_ms_cg {m : Nat} {P' : Nat → Prop} (e : ∀ i, i < n → (P i ↔ P' i)) (h : nu_ms m n P) : nu_ms m n P' := by
  intro i
  rw [h i]
  constructor
  · intro a; exact ⟨a.1, (e i a.1).mp a.2⟩
  · intro a; exact ⟨a.1, (e i a.1).mpr a.2⟩
/-- a bit of a mask of corners -/
theorem nx_Lbit {m c k : Nat} {W : Nat → Prop} (h : nu_ms m c W) (hc : c ≤ 32) (hk : k < c) :
    (W k → (lN m >>> ((nI k).toInt64 &&& 63)) &&& 1 = 1) ∧ (¬ W k → (lN m >>> ((nI k).toInt64 &&& 63)) &&& 1 = 0) := by
  have hl := nu_ms_lt h
  have h32 : 2 ^ c ≤ 2 ^ 32 := Nat.pow_le_pow_right (by decide) hc
  have e1 : ((lN k).toBitVec.smod 64).toNat = k := by
    rw [wb_tb, wb_sm k (by omega), BitVec.toNat_ofNat]
    exact Nat.mod_eq_of_lt (by omega)
  rw [wb_c k (by omega), pf_shr (d := k) e1 (by omega), wb_a1 (Nat.lt_of_le_of_lt (Nat.div_le_self _ _) (by omega))]
  have hb := h k
  rw [Nat.testBit_eq_decide_div_mod_eq, decide_eq_true_eq] at hb
  refine ⟨fun a => ?_, fun a => ?_⟩
  · rw [hb.mpr ⟨hk, a⟩]; rfl
  · have : m / 2 ^ k % 2 = 0 := by
      have : ¬ m / 2 ^ k % 2 = 1 := fun z => a (hb.mp z).2
      omega
    rw [this]; rfl
theorem nu_ms_all (n : Nat) : nu_ms (2 ^ n - 1) n (fun _ => True) := by
  intro i
  rw [Nat.testBit_two_pow_sub_one, decide_eq_true_eq]
  simp
theorem yw_sh12 {post : Int32 → Prop} {w : Nat} {W : Nat → Prop} (hT : xw_T gt c n Q f) (hc : c ≤ 32) (hn : n ≤ 16) (hw : nu_ms w c W)
    (h : ∀ s, nu_ms s n (fun i => ∀ k, k < c → W k → gm_ev (Q i) (f k) = 0) → post (nI s)) :
    ∀ (d k s : Nat), k + d = c → nu_ms s n (fun i => ∀ j, j < k → W j → gm_ev (Q i) (f j) = 0) → wY_shared_12 post (lN w) fn fp (nI c) nr nb gu gv gw gd gx gy gz gb gt gf (d + 1) (nI s) (nI k) := by
  intro d
  induction d with
  | zero =>
    intro k s hk hs
    have : k = c := by omega
    subst this
    exact br_t (nI_le (Nat.le_refl _) (by omega)) (h s hs)
  | succ d ih =>
    intro k s hk hs
    have hb := nx_Lbit hw hc (show k < c by omega)
    refine br_f (nI_ge (by omega) (by omega)) ?_
    by_cases wk : W k
    · obtain ⟨m, hm, hms⟩ := hT k (by omega)
      refine br_t (hb.1 wk) ⟨vp_in_nI (by omega) (by omega), ?_⟩
      rw [nI_clamp (by omega), hm]
      refine nm_r (nx_and _ _) (nm_r (nI_1 k) (ih (k + 1) _ (by omega) (nu_ms_cg (fun i hi => ?_) (nu_ms_and hs hms))))
      constructor
      · intro a j hj wj
        by_cases e : j = k
        · subst e; exact a.2
        · exact a.1 j (by omega) wj
      · intro a
        exact ⟨fun j hj wj => a j (by omega) wj, a k (by omega) wk⟩
    · refine br_f (by rw [hb.2 wk]; decide) (nm_r (nI_1 k) (ih (k + 1) s (by omega) (nu_ms_cg (fun i hi => ?_) hs)))
      constructor
      · intro a j hj wj
        by_cases e : j = k
        · subst e; exact absurd wj wk
        · exact a j (by omega) wj
      · intro a j hj wj
        exact a j (by omega) wj
theorem yw_shared {post : Int32 → Prop} {w : Nat} {W : Nat → Prop} (hT : xw_T gt c n Q f) (hc : c ≤ 32) (hn : n ≤ 16) (hw : nu_ms w c W)
    (h : ∀ s, nu_ms s n (fun i => ∀ k, k < c → W k → gm_ev (Q i) (f k) = 0) → post (nI s)) : wpY_shared post (fn, nI n, nI c, nr, nb, gu, gv, gw, gd, gx, gy, gz, gb, gt, gf) (lN w) := by
  have hp : 1 ≤ 2 ^ n := Nat.one_le_two_pow
  unfold wpY_shared
  dsimp only
  rw [nx_bitp (by omega)]
  refine nm_r (pk_sub (a := 2 ^ n) (b := 1) hp) ⟨c + 1, yw_sh12 hT hc hn hw h c 0 (2 ^ n - 1) (by omega) (nu_ms_cg (fun i hi => ?_) (nu_ms_all n))⟩
  exact ⟨fun _ j hj => by omega, fun _ => trivial⟩
theorem yw_dimOf {post : Int32 → Prop} {w : Nat} {W : Nat → Prop} (hQ : yw_A gu gv gw gd n Q) (hn : n ≤ 16) (hok : ∀ i, i < n → gm_ok (Q i)) (hT : xw_T gt c n Q f) (hc : c ≤ 32) (hw : nu_ms w c W)
    (h0 : (∀ k, k < c → ¬ W k) → post (-1)) (h1 : (∃ k, k < c ∧ W k) → ∀ r, rk_is Q (fun i => i < n ∧ ∀ k, k < c → W k → gm_ev (Q i) (f k) = 0) r → post (3 - nI r)) :
    wpY_dimensionOf post (fn, nI n, nI c, nr, nb, gu, gv, gw, gd, gx, gy, gz, gb, gt, gf) (lN w) := by
  have hl := nu_ms_lt hw
  have h32 : 2 ^ c ≤ 2 ^ 32 := Nat.pow_le_pow_right (by decide) hc
  by_cases e : w = 0
  · exact br_t (by rw [e]; rfl) (h0 ((nu_ms_z hw).mp e))
  · have hx : ∃ k, k < c ∧ W k := by
      apply Classical.byContradiction
      intro hn
      exact e ((nu_ms_z hw).mpr (fun k hk wk => hn ⟨k, hk, wk⟩))
    refine br_f (fun z => e ((pk_lEQ (b := 0) (by omega) (by omega)).mp z)) (yw_shared hT hc hn hw (fun s hs => yw_rank hQ hn hok hs (fun r hr => h1 hx r hr)))
theorem yw_all {post : Int64 → Prop} (hc : c ≤ 32) (h : ∀ w, nu_ms w c (fun _ => True) → post (lN w)) : wpY_all post (fn, fp, nI c, nr, nb, gu, gv, gw, gd, gx, gy, gz, gb, gt, gf) := by
  have hp : 1 ≤ 2 ^ c := Nat.one_le_two_pow
  unfold wpY_all
  dsimp only
  rw [show (1 : Int64) = lN 1 from rfl, wb_shl 1 (by omega), Nat.one_mul, lN_sub hp]
  exact h _ (nu_ms_all c)
end
end
section
/-! dimension, neighbours, edges -/
section
variable {fc ff : Int32} {pl co tt st : Nat → Int32} {Q f : Nat → gm_V} {n c : Nat} {M : Nat → Nat} {D : Nat → Int}
variable {fn fp fk : Int32} {nr nb gu gv gw gd gx gy gz gb gt gf : Nat → Int32}
/-- what is known of the list of the corners -/
def dm_L (Q : Nat → gm_V) (n c : Nat) (f : Nat → gm_V) : Prop := ls_L (gm_Vt Q (fun p => p < n)) c f ∧ gm_Bd Q (fun p => p < n) ∧ ∀ i, i < n → rk_nz (Q i)
theorem dm_npr (h : dm_L Q n c f) {a b : Nat} (ha : a < c) (hb : b < c) (hab : a ≠ b) : ¬ gm_pr (f a) (f b) := by
  rcases Nat.lt_or_gt_of_ne hab with k | k
  · exact gm_lt_npr (h.1.2.1 a b k hb)
  · exact fun z => gm_lt_npr (h.1.2.1 b a k ha) (gm_pr_symm z)
theorem dm_vx (h : dm_L Q n c f) {t : gm_V} (ht : gm_Vx Q (fun p => p < n) t) : ∃ k, k < c ∧ gm_pr t (f k) ∧ ∀ a, gm_ev a t = 0 → gm_ev a (f k) = 0 := by
  obtain ⟨hw, hin, i, j, k, hi, hj, hk, hd, ei, ej, ek⟩ := ht
  have hw0 : t.2.2.2 ≠ 0 := by omega
  have hv : gm_Vt Q (fun p => p < n) (gm_red t) := by
    refine ⟨⟨gm_red_w hw0, fun s hs => ?_, i, j, k, hi, hj, hk, hd, gm_red_0 hw0 ei, gm_red_0 hw0 ej, gm_red_0 hw0 ek⟩, gm_red_g hw0⟩
    have e := gm_red_ev (Q s) t
    rw [yw_q hw] at e
    have hg := gm_g4_pos hw0
    have := hin s hs
    rcases Int.lt_or_le 0 (gm_ev (Q s) (gm_red t)) with z | z
    · have := gm_pp (a := (gm_g4 t : Int)) (by omega) z
      omega
    · exact z
  obtain ⟨m, hm, e⟩ := h.1.2.2 _ hv
  refine ⟨m, hm, ?_, fun a ha => by rw [e]; exact gm_red_0 hw0 ha⟩
  rw [e]
  exact gm_uniq hd ei ej ek (gm_red_0 hw0 ei) (gm_red_0 hw0 ej) (gm_red_0 hw0 ek)
theorem dm_pr_trans {p q r : gm_V} (hq : 0 < q.2.2.2) (h1 : gm_pr p q) (h2 : gm_pr q r) : gm_pr p r := by
  obtain ⟨a1, a2, a3⟩ := h1
  obtain ⟨b1, b2, b3⟩ := h2
  exact ⟨gm_frac_eq hq a1 b1, gm_frac_eq hq a2 b2, gm_frac_eq hq a3 b3⟩
/-- neighbours: no third corner in all planes of both -/
def nb_N (Q : Nat → gm_V) (n c : Nat) (f : Nat → gm_V) (k l : Nat) : Prop :=
  ∀ m, m < c → m ≠ k → m ≠ l → ¬ ∀ i, i < n → gm_ev (Q i) (f k) = 0 ∧ gm_ev (Q i) (f l) = 0 → gm_ev (Q i) (f m) = 0
theorem nb_symm {k l : Nat} : nb_N Q n c f k l ↔ nb_N Q n c f l k :=
  ⟨fun h m hm h1 h2 g => h m hm h2 h1 (fun i hi z => g i hi ⟨z.2, z.1⟩), fun h m hm h1 h2 g => h m hm h2 h1 (fun i hi z => g i hi ⟨z.2, z.1⟩)⟩
theorem nb_rank (h : dm_L Q n c f) {k l r : Nat} (hk : k < c) (hl : l < c) (hkl : k ≠ l) (hr : rk_is Q (fun i => i < n ∧ (gm_ev (Q i) (f k) = 0 ∧ gm_ev (Q i) (f l) = 0)) r) : r = 2 ↔ nb_N Q n c f k l := by
  have hkv := (h.1.1 k hk).1
  have hlv := (h.1.1 l hl).1
  rw [rk_c2 (ac := fun p => p < n) (n := n) (fun i hi => hi) h.2.1 h.2.2 hkv hlv (dm_npr h hk hl hkl) hr]
  constructor
  · intro g m hm m1 m2 hx
    exact g ⟨f m, (h.1.1 m hm).1, dm_npr h hm hk m1, dm_npr h hm hl m2, fun i hi a b => hx i hi ⟨a, b⟩⟩
  · intro g hx
    obtain ⟨t, ht, t1, t2, t3⟩ := hx
    obtain ⟨m, hm, hp, he⟩ := dm_vx h ht
    refine g m hm (fun e => t1 (by rw [← e]; exact hp)) (fun e => t2 (by rw [← e]; exact hp)) (fun i hi z => he _ (t3 i hi z.1 z.2))
theorem yw_nb {post : Int32 → Prop} (h : dm_L Q n c f) (hc : c ≤ 32) (hn : n ≤ 16) (hok : ∀ i, i < n → gm_ok (Q i)) (hQ : yw_A gu gv gw gd n Q) (hT : xw_T gt c n Q f) {k l : Nat} (hk : k < c) (hl : l < c)
    (h1 : k ≠ l → nb_N Q n c f k l → post 1) (h0 : (k = l ∨ ¬ nb_N Q n c f k l) → post 0) : wpY_areNeighbours post (fn, nI n, nI c, nr, nb, gu, gv, gw, gd, gx, gy, gz, gb, gt, gf) (nI k) (nI l) := by
  obtain ⟨mk, ek, sk⟩ := hT k hk
  obtain ⟨ml, el, sl⟩ := hT l hl
  by_cases e : k = l
  · exact br_t (by rw [e]) (h0 (.inl e))
  · refine br_f (fun z => e ((nI_eq (by omega) (by omega)).mp z)) ⟨vp_in_nI (by omega) (by omega), vp_in_nI (by omega) (by omega), ?_⟩
    rw [nI_clamp (by omega), nI_clamp (by omega), ek, el, nx_and]
    refine yw_rank hQ hn hok (nu_ms_and sk sl) (fun r hr => ?_)
    have hb := nb_rank h hk hl e hr
    have r3 := rk_le3 hr
    by_cases g : r = 2
    · exact br_t (by rw [g]; rfl) (h1 e (hb.mp g))
    · exact br_f (fun z => g ((nI_eq (b := 2) (by omega) (by omega)).mp z)) (h0 (.inr (fun z => g (hb.mpr z))))
theorem xw_nb17 {post : Int32 → Prop} {k l s : Nat} (hc : c ≤ 32) (hn : n ≤ 16) (hT : xw_T tt c n Q f) (hk : k < c) (hl : l < c) (hs : nu_ms s n (fun i => gm_ev (Q i) (f k) = 0 ∧ gm_ev (Q i) (f l) = 0))
    (h1 : nb_N Q n c f k l → post 1) (h0 : ¬ nb_N Q n c f k l → post 0) :
    ∀ d m : Nat, m + d = c → (∀ j, j < m → j ≠ k → j ≠ l → ¬ ∀ i, i < n → gm_ev (Q i) (f k) = 0 ∧ gm_ev (Q i) (f l) = 0 → gm_ev (Q i) (f j) = 0) →
      wX_areNeighbours_17 post (nI k) (nI l) (nI s) fc (nI c) pl co tt st (d + 1) (nI m) := by
  intro d
  induction d with
  | zero =>
    intro m hm hI
    have : m = c := by omega
    subst this
    exact br_t (nI_le (Nat.le_refl _) (by omega)) (h1 hI)
  | succ d ih =>
    intro m hm hI
    have nx : (m ≠ k → m ≠ l → ¬ ∀ i, i < n → gm_ev (Q i) (f k) = 0 ∧ gm_ev (Q i) (f l) = 0 → gm_ev (Q i) (f m) = 0) → ∀ z, z = nI m + 1 → wX_areNeighbours_17 post (nI k) (nI l) (nI s) fc (nI c) pl co tt st (d + 1) z := by
      intro g
      refine nm_r (nI_1 m) (ih (m + 1) (by omega) (fun j hj => ?_))
      by_cases e : j = m
      · subst e; exact g
      · exact hI j (by omega)
    refine br_f (nI_ge (by omega) (by omega)) (br_c (fun e => nx (fun a => ?_)) (fun e1 => br_c (fun e => nx (fun _ b => ?_)) (fun e2 => ?_)))
    · exact absurd ((nI_eq (by omega) (by omega)).mp e) a
    · exact absurd ((nI_eq (by omega) (by omega)).mp e) b
    · obtain ⟨mm, em, sm⟩ := hT m (by omega)
      have hsub := nu_ms_sub sm hs
      have l1 := nu_ms_lt hs
      have l2 := nu_ms_lt sm
      have h16 : 2 ^ n ≤ 2 ^ 16 := Nat.pow_le_pow_right (by decide) hn
      have l3 : mm &&& s ≤ s := Nat.and_le_right
      refine ⟨vp_in_nI (by omega) (by omega), ?_⟩
      rw [nI_clamp (by omega), em, nx_and]
      refine br_c (fun g => h0 (fun hN => ?_)) (fun g => nx (fun _ _ z => ?_))
      · have g' := hsub.mp ((nI_eq (by omega) (by omega)).mp g)
        exact hN m (by omega) (fun z => e1 (by rw [z])) (fun z => e2 (by rw [z])) g'
      · exact g (by rw [hsub.mpr z])
theorem xw_nb {post : Int32 → Prop} {k l : Nat} (hc : c ≤ 32) (hn : n ≤ 16) (hT : xw_T tt c n Q f) (hk : k < c) (hl : l < c) (h1 : nb_N Q n c f k l → post 1) (h0 : ¬ nb_N Q n c f k l → post 0) :
    wpX_areNeighbours post (fc, nI c, pl, co, tt, st) (nI k) (nI l) := by
  obtain ⟨mk, ek, sk⟩ := hT k hk
  obtain ⟨ml, el, sl⟩ := hT l hl
  refine ⟨vp_in_nI (by omega) (by omega), vp_in_nI (by omega) (by omega), ?_⟩
  rw [nI_clamp (by omega), nI_clamp (by omega), ek, el]
  exact nm_r (nx_and _ _) ⟨c + 1, xw_nb17 hc hn hT hk hl (nu_ms_and sk sl) h1 h0 c 0 (by omega) (fun j hj => by omega)⟩
/-- the dimension, as the component answers it -/
def dm_D (Q : Nat → gm_V) (n c : Nat) (f : Nat → gm_V) (d : Int32) : Prop :=
  (c < 3 ∧ d = nI c - 1) ∨ (3 ≤ c ∧ (∃ i, i < n ∧ ∀ k, k < c → gm_ev (Q i) (f k) = 0) ∧ d = 2) ∨ (3 ≤ c ∧ (¬ ∃ i, i < n ∧ ∀ k, k < c → gm_ev (Q i) (f k) = 0) ∧ d = 3)
theorem xw_dim24 {post : Int32 → Prop} (hc : c ≤ 32) (h3 : 3 ≤ c) (hn : n ≤ 16) (hT : xw_T tt c n Q f) (h : ∀ d, dm_D Q n c f d → post d) :
    ∀ d k s : Nat, k + d = c → nu_ms s n (fun i => ∀ j, j < k → gm_ev (Q i) (f j) = 0) → wX_dimensionOfCorners_24 post fc (nI c) pl co tt st (d + 1) (nI s) (nI k) := by
  have h16 : 2 ^ n ≤ 2 ^ 16 := Nat.pow_le_pow_right (by decide) hn
  intro d
  induction d with
  | zero =>
    intro k s hk hs
    have : k = c := by omega
    subst this
    have l1 := nu_ms_lt hs
    have hz := nu_ms_z hs
    refine br_t (nI_le (Nat.le_refl _) (by omega)) (br_c (fun e => ?_) (fun e => ?_))
    · have e' : s = 0 := (nI_eq (b := 0) (by omega) (by omega)).mp e
      exact h 3 (.inr (.inr ⟨h3, fun hx => by obtain ⟨i, hi, g⟩ := hx; exact hz.mp e' i hi g, rfl⟩))
    · have e' : ¬ s = 0 := fun z => e (by rw [z]; rfl)
      refine h 2 (.inr (.inl ⟨h3, ?_, rfl⟩))
      apply Classical.byContradiction
      intro hx
      exact e' (hz.mpr (fun i hi g => hx ⟨i, hi, g⟩))
  | succ d ih =>
    intro k s hk hs
    obtain ⟨m, hm, hms⟩ := hT k (by omega)
    refine br_f (nI_ge (by omega) (by omega)) ⟨vp_in_nI (by omega) (by omega), ?_⟩
    rw [nI_clamp (by omega), hm]
    refine nm_r (nx_and _ _) (nm_r (nI_1 k) (ih (k + 1) _ (by omega) (nu_ms_cg (fun i hi => ?_) (nu_ms_and hs hms))))
    constructor
    · intro a j hj
      by_cases e : j = k
      · subst e; exact a.2
      · exact a.1 j (by omega)
    · intro a
      exact ⟨fun j hj => a j (by omega), a k (by omega)⟩
theorem xw_dim {post : Int32 → Prop} (hc : c ≤ 32) (hn : n ≤ 16) (hT : xw_T tt c n Q f) (h : ∀ d, dm_D Q n c f d → post d) : wpX_dimensionOfCorners post (fc, nI c, pl, co, tt, st) := by
  by_cases h3 : 3 ≤ c
  · obtain ⟨m, hm, hms⟩ := hT 0 (by omega)
    refine br_t (nI_le (a := 3) h3 (by omega)) (nm_r hm ⟨c - 1 + 1, xw_dim24 hc h3 hn hT h (c - 1) 1 m (by omega) (nu_ms_cg (fun i hi => ?_) hms)⟩)
    constructor
    · intro a j hj
      have : j = 0 := by omega
      subst this; exact a
    · intro a; exact a 0 (by omega)
  · exact br_f (nI_ge (b := 3) (by omega) (by decide)) (h _ (.inl ⟨by omega, rfl⟩))
theorem dm_rank (h : dm_L Q n c f) (hc : c ≤ 32) {r : Nat} {d : Int32} (h0 : 0 < c) (hr : rk_is Q (fun i => i < n ∧ ∀ k, k < c → gm_ev (Q i) (f k) = 0) r) (hd : dm_D Q n c f d) : 3 - nI r = d := by
  rcases hd with ⟨h3, e⟩ | ⟨h3, hx, e⟩ | ⟨h3, hx, e⟩
  · have : c = 1 ∨ c = 2 := by omega
    rcases this with z | z
    · subst z
      have : r = 3 := rk_c1 (ac := fun p => p < n) h.2.2 (h.1.1 0 (by omega)).1 (rk_cg (fun i => by
        constructor
        · intro a; exact ⟨a.1, a.2 0 (by omega)⟩
        · intro a
          refine ⟨a.1, fun k hk => ?_⟩
          have : k = 0 := by omega
          subst this; exact a.2) hr)
      rw [this, e]; decide
    · subst z
      have hr2 : rk_is Q (fun i => i < n ∧ (gm_ev (Q i) (f 0) = 0 ∧ gm_ev (Q i) (f 1) = 0)) r := rk_cg (fun i => by
        constructor
        · intro a; exact ⟨a.1, a.2 0 (by omega), a.2 1 (by omega)⟩
        · intro a
          refine ⟨a.1, fun k hk => ?_⟩
          have : k = 0 ∨ k = 1 := by omega
          rcases this with z | z <;> subst z
          · exact a.2.1
          · exact a.2.2) hr
      have : r = 2 := (nb_rank h (by omega) (by omega) (by omega) hr2).mpr (fun m hm m1 m2 => by omega)
      rw [this, e]; decide
  · have hl : r < 2 := rk_c3 (ac := fun p => p < n) (h.1.1 0 (by omega)).1 (h.1.1 1 (by omega)).1 (h.1.1 2 (by omega)).1 (dm_npr h (by omega) (by omega) (by omega)) (dm_npr h (by omega) (by omega) (by omega))
      (dm_npr h (by omega) (by omega) (by omega)) (fun i hi => ⟨hi.2 0 (by omega), hi.2 1 (by omega), hi.2 2 (by omega)⟩) hr
    have h1 : ¬ r = 0 := fun z => by
      obtain ⟨i, hi, g⟩ := hx
      exact (rk_0 hr).mp z i ⟨hi, g⟩
    have : r = 1 := by omega
    rw [this, e]; decide
  · have : r = 0 := (rk_0 hr).mpr (fun i hi => hx ⟨i, hi.1, hi.2⟩)
    rw [this, e]; decide
theorem dm_of (hR : rl_R n M D pl nr nb) (hL : ls_L (gm_Vt (rl_Q M D) (fun p => p < 6 + n)) c f) : dm_L (rl_Q M D) (6 + n) c f :=
  ⟨hL, gm_box (fun i hi => ⟨by omega, rl_Q6 i hi⟩), fun i hi => (rl_Q_ok hR.1 i hi).2⟩
theorem yw_dim {post : Int32 → SY → Prop} {d : Int32} (hR : rl_R n M D pl nr nb) (hL : ls_L (gm_Vt (rl_Q M D) (fun p => p < 6 + n)) c f) (hc : c ≤ 32) (hd : dm_D (rl_Q M D) (6 + n) c f d)
    (h : ∀ gu gv gw gd gx gy gz gb gt, yw_A gu gv gw gd (6 + n) (rl_Q M D) → xw_T gt c (6 + n) (rl_Q M D) f → post d (nI n, nI (6 + n), nI c, nr, nb, gu, gv, gw, gd, gx, gy, gz, gb, gt, gf)) : wpY_dimension post (nI n, fp, fk, nr, nb, gu, gv, gw, gd, gx, gy, gz, gb, gt, gf) := by
  have hn8 := hR.1.1
  have hdm := dm_of hR hL
  unfold wpY_dimension
  refine yw_find2 hR hL (fun gu gv gw gd gx gy gz gb gt g1 g2 g3 => ?_)
  refine yw_all hc (fun w hw => ?_)
  refine yw_dimOf g1 (by omega) (fun i hi => (rl_Q_ok hR.1 i hi).1) g3 hc hw (fun z => ?_) (fun hx r hr => ?_)
  · have c0 : c = 0 := by
      by_cases e : c = 0
      · exact e
      · exact absurd trivial (z 0 (by omega))
    have : d = -1 := by
      rcases hd with ⟨_, e⟩ | ⟨h3, _⟩ | ⟨h3, _⟩
      · rw [e, c0]; decide
      · omega
      · omega
    rw [← this]
    exact h _ _ _ _ _ _ _ _ _ g1 g3
  · obtain ⟨k, hk, _⟩ := hx
    rw [dm_rank hdm hc (by omega) (rk_cg (fun i => ⟨fun a => ⟨a.1, fun k hk => a.2 k hk trivial⟩, fun a => ⟨a.1, fun k hk _ => a.2 k hk⟩⟩) hr) hd]
    exact h _ _ _ _ _ _ _ _ _ g1 g3
theorem i_vc_dimension {k : Nat} {u : SX} {v : SY} (I : i_Rel k u v) (hk : k + 3 ≤ 1536) : wpX_dimension (fun r u' => wpY_dimension (fun r' v' => r' = r ∧ i_Rel (k + 3) u' v') v) u := by
  obtain ⟨fc, ff, pl, co, tt, st⟩ := u
  obtain ⟨fn, fp, fk, nr, nb, gu, gv, gw, gd, gx, gy, gz, gb, gt, gf⟩ := v
  obtain ⟨n, M, D, e1, e2, hR⟩ := I
  dsimp only at e1 e2 hR
  subst e1 e2
  have hn8 := hR.1.1
  unfold wpX_dimension
  refine xw_body hR (fun c f co tt hc hL hC hT => ?_)
  refine xw_dim hc (by omega) hT (fun d hd => ?_)
  exact yw_dim hR hL hc hd (fun gu gv gw gd gx gy gz gb gt _ _ => ⟨rfl, n, M, D, rfl, rfl, hR⟩)
end
end
section
/-! edges, faces -/
section
/-- sums, and counting couples by rows or by columns -/
def ed_s (g : Nat → Nat) : Nat → Nat
  | 0 => 0
  | k + 1 => ed_s g k + g k
theorem ed_cg {g h : Nat → Nat} : ∀ N : Nat, (∀ i, i < N → g i = h i) → ed_s g N = ed_s h N := by
  intro N
  induction N with
  | zero => intro _; rfl
  | succ N ih => intro e; rw [ed_s, ed_s, ih (fun i hi => e i (by omega)), e N (by omega)]
theorem ed_add {g h : Nat → Nat} : ∀ N : Nat, ed_s (fun i => g i + h i) N = ed_s g N + ed_s h N := by
  intro N
  induction N with
  | zero => rfl
  | succ N ih => rw [ed_s, ed_s, ed_s, ih]; omega
theorem ed_0 : ∀ N : Nat, ed_s (fun _ => 0) N = 0 := by
  intro N
  induction N with
  | zero => rfl
  | succ N ih => rw [ed_s, ih]
noncomputable def ed_b (p : Prop) : Nat := @ite Nat p (Classical.propDecidable p) 1 0
theorem ed_cn (P : Nat → Prop) : ∀ N : Nat, gm_cn P N = ed_s (fun i => ed_b (P i)) N := by
  intro N
  induction N with
  | zero => rfl
  | succ N ih => rw [ed_s, ← ih, gm_cn]; rfl
theorem ed_swap (R : Nat → Nat → Prop) (m : Nat) : ∀ N : Nat, ed_s (fun k => gm_cn (R k) m) N = ed_s (fun l => gm_cn (fun k => R k l) N) m := by
  intro N
  induction N with
  | zero =>
    rw [ed_s]
    exact (ed_0 m).symm
  | succ N ih =>
    rw [ed_s, ih]
    rw [ed_cg (g := fun l => gm_cn (fun k => R k l) (N + 1)) (h := fun l => gm_cn (fun k => R k l) N + ed_b (R N l)) m (fun i hi => by rw [gm_cn]; rfl), ed_add, ← ed_cn]
theorem ed_ext {P : Nat → Prop} {a : Nat} : ∀ c : Nat, a ≤ c → (∀ i, a ≤ i → i < c → ¬ P i) → gm_cn P c = gm_cn P a := by
  intro c
  induction c with
  | zero => intro h _; have : a = 0 := by omega
            subst this; rfl
  | succ c ih =>
    intro h hn
    by_cases e : a = c + 1
    · subst e; rfl
    · rw [gm_cn_f (hn c (by omega) (by omega))]
      exact ih (by omega) (fun i h1 h2 => hn i h1 (by omega))

variable {fc ff : Int32} {pl co tt st : Nat → Int32} {Q f : Nat → gm_V} {n c : Nat} {M : Nat → Nat} {D : Nat → Int}
variable {fn fp fk : Int32} {nr nb gu gv gw gd gx gy gz gb gt gf : Nat → Int32}
/-- couples, the smaller first -/
def ed_R (Q : Nat → gm_V) (n c : Nat) (f : Nat → gm_V) (k l : Nat) : Prop := k < l ∧ nb_N Q n c f k l
theorem xw_ed20 {post : Int32 → SX → Prop} {J : Int32 → Int32 → Prop} {k B : Nat} (hc : c ≤ 32) (hn : n ≤ 16) (hT : xw_T tt c n Q f) (hk : k < c) (h : J (nI (B + gm_cn (ed_R Q n c f k) c)) (nI (k + 1))) :
    ∀ d l : Nat, l + d = c → k < l → wX_edges_20 post J (nI k) fc (nI c) pl co tt st (d + 1) (nI (B + gm_cn (ed_R Q n c f k) l)) (nI l) := by
  intro d
  induction d with
  | zero =>
    intro l hl _
    have : l = c := by omega
    subst this
    exact br_t (nI_le (Nat.le_refl _) (by omega)) (nm_r (nI_1 k) h)
  | succ d ih =>
    intro l hl hkl
    have nx := ih (l + 1) (by omega) (by omega)
    refine br_f (nI_ge (by omega) (by omega)) (xw_nb hc hn hT hk (by omega) (fun g => ?_) (fun g => ?_))
    · rw [gm_cn_t (P := ed_R Q n c f k) ⟨hkl, g⟩] at nx
      exact br_f (by decide) (nm_r (nI_1 _) (nm_r (nI_1 l) nx))
    · rw [gm_cn_f (P := ed_R Q n c f k) (fun z => g z.2)] at nx
      exact br_t rfl (nm_r (nI_1 l) nx)
theorem xw_ed8 {post : Int32 → SX → Prop} (hc : c ≤ 32) (hn : n ≤ 16) (hT : xw_T tt c n Q f) (h : post (nI (ed_s (fun k => gm_cn (ed_R Q n c f k) c) c)) (fc, nI c, pl, co, tt, st)) :
    ∀ d k : Nat, k + d = c → wX_edges_8 post fc (nI c) pl co tt st (d + 1) (nI (ed_s (fun k => gm_cn (ed_R Q n c f k) c) k)) (nI k) := by
  intro d
  induction d with
  | zero =>
    intro k hk
    have : k = c := by omega
    subst this
    exact br_t (nI_le (Nat.le_refl _) (by omega)) h
  | succ d ih =>
    intro k hk
    refine br_f (nI_ge (by omega) (by omega)) (nm_r (nI_1 k) ⟨c - (k + 1) + 1, ?_⟩)
    have := xw_ed20 (post := post) (J := wX_edges_8 post fc (nI c) pl co tt st (d + 1)) (fc := fc) (pl := pl) (co := co) (st := st) (B := ed_s (fun k => gm_cn (ed_R Q n c f k) c) k) hc hn hT (show k < c by omega) (ih (k + 1) (by omega)) (c - (k + 1)) (k + 1) (by omega) (by omega)
    rw [sh_cn_0 (P := ed_R Q n c f k) (k + 1) (fun i hi z => by have := z.1; omega), Nat.add_zero] at this
    exact this
theorem yw_ed18 {post : Int32 → SY → Prop} {J : Int32 → Int32 → Prop} {j B : Nat} (hd : dm_L Q n c f) (hc : c ≤ 32) (hn : n ≤ 16) (hok : ∀ i, i < n → gm_ok (Q i)) (hQ : yw_A gu gv gw gd n Q) (hT : xw_T gt c n Q f) (hj : j < c)
    (h : J (nI (B + gm_cn (fun k => ed_R Q n c f k j) j)) (nI (j + 1))) :
    ∀ d k : Nat, k + d = j → wY_edges_18 post J (nI j) fn (nI n) (nI c) nr nb gu gv gw gd gx gy gz gb gt gf (d + 1) (nI (B + gm_cn (fun k => ed_R Q n c f k j) k)) (nI k) := by
  intro d
  induction d with
  | zero =>
    intro k hk
    have : k = j := by omega
    subst this
    exact br_t (nI_le (Nat.le_refl _) (by omega)) (nm_r (nI_1 k) h)
  | succ d ih =>
    intro k hk
    have nx := ih (k + 1) (by omega)
    refine br_f (nI_ge (by omega) (by omega)) (yw_nb hd hc hn hok hQ hT hj (by omega) (fun _ g => ?_) (fun g => ?_))
    · rw [gm_cn_t (P := fun k => ed_R Q n c f k j) ⟨by omega, nb_symm.mp g⟩] at nx
      exact br_f (by decide) (nm_r (nI_1 _) (nm_r (nI_1 k) nx))
    · rw [gm_cn_f (P := fun k => ed_R Q n c f k j) (fun z => by
        rcases g with g | g
        · omega
        · exact g (nb_symm.mp z.2))] at nx
      exact br_t rfl (nm_r (nI_1 k) nx)
theorem yw_ed8 {post : Int32 → SY → Prop} (hd : dm_L Q n c f) (hc : c ≤ 32) (hn : n ≤ 16) (hok : ∀ i, i < n → gm_ok (Q i)) (hQ : yw_A gu gv gw gd n Q) (hT : xw_T gt c n Q f)
    (h : post (nI (ed_s (fun l => gm_cn (fun k => ed_R Q n c f k l) l) c)) (fn, nI n, nI c, nr, nb, gu, gv, gw, gd, gx, gy, gz, gb, gt, gf)) :
    ∀ d j : Nat, j + d = c → wY_edges_8 post fn (nI n) (nI c) nr nb gu gv gw gd gx gy gz gb gt gf (d + 1) (nI (ed_s (fun l => gm_cn (fun k => ed_R Q n c f k l) l) j)) (nI j) := by
  intro d
  induction d with
  | zero =>
    intro k hk
    have : k = c := by omega
    subst this
    exact br_t (nI_le (Nat.le_refl _) (by omega)) h
  | succ d ih =>
    intro j hj
    refine br_f (nI_ge (by omega) (by omega)) ⟨j + 1, ?_⟩
    have := yw_ed18 (post := post) (J := wY_edges_8 post fn (nI n) (nI c) nr nb gu gv gw gd gx gy gz gb gt gf (d + 1)) (fn := fn) (nr := nr) (nb := nb) (gx := gx) (gy := gy) (gz := gz) (gb := gb) (gf := gf)
      (B := ed_s (fun l => gm_cn (fun k => ed_R Q n c f k l) l) j) hd hc hn hok hQ hT (show j < c by omega) (ih (j + 1) (by omega)) j 0 (by omega)
    exact this
theorem ed_eq : ed_s (fun k => gm_cn (ed_R Q n c f k) c) c = ed_s (fun l => gm_cn (fun k => ed_R Q n c f k l) l) c := by
  rw [ed_swap]
  exact ed_cg c (fun l hl => ed_ext c (by omega) (fun i h1 h2 z => by have := z.1; omega))
theorem i_vc_edges {k : Nat} {u : SX} {v : SY} (I : i_Rel k u v) (hk : k + 3 ≤ 1536) : wpX_edges (fun r u' => wpY_edges (fun r' v' => r' = r ∧ i_Rel (k + 3) u' v') v) u := by
  obtain ⟨fc, ff, pl, co, tt, st⟩ := u
  obtain ⟨fn, fp, fk, nr, nb, gu, gv, gw, gd, gx, gy, gz, gb, gt, gf⟩ := v
  obtain ⟨n, M, D, e1, e2, hR⟩ := I
  dsimp only at e1 e2 hR
  subst e1 e2
  have hn8 := hR.1.1
  unfold wpX_edges
  refine xw_body hR (fun c f co tt hc hL hC hT => ?_)
  refine ⟨c + 1, xw_ed8 hc (by omega) hT ?_ c 0 (by omega)⟩
  unfold wpY_edges
  refine yw_find2 hR hL (fun gu gv gw gd gx gy gz gb gt g1 g2 g3 => ?_)
  refine ⟨c + 1, yw_ed8 (dm_of hR hL) hc (by omega) (fun i hi => (rl_Q_ok hR.1 i hi).1) g1 g3 ⟨?_, n, M, D, rfl, rfl, hR⟩ c 0 (by omega)⟩
  rw [ed_eq]

/-- faces -/
def fa_S (Q : Nat → gm_V) (c : Nat) (f : Nat → gm_V) (p q : Nat) : Prop := ∀ k, k < c → (gm_ev (Q p) (f k) = 0 ↔ gm_ev (Q q) (f k) = 0)
def fa_F (Q : Nat → gm_V) (c : Nat) (f : Nat → gm_V) (p : Nat) : Prop := 3 ≤ gm_cn (fun k => gm_ev (Q p) (f k) = 0) c ∧ ¬ ∃ q, q < p ∧ fa_S Q c f p q
theorem xw_hs2 {post : Int32 → Prop} {p q : Nat} (hc : c ≤ 32) (hn : n ≤ 16) (hT : xw_T tt c n Q f) (hp : p < n) (hq : q < n) (h1 : fa_S Q c f p q → post 1) (h0 : ¬ fa_S Q c f p q → post 0) :
    ∀ d k : Nat, k + d = c → (∀ j, j < k → (gm_ev (Q p) (f j) = 0 ↔ gm_ev (Q q) (f j) = 0)) → wX_haveSameCorners_2 post (nI p) (nI q) fc (nI c) pl co tt st (d + 1) (nI k) := by
  intro d
  induction d with
  | zero =>
    intro k hk hI
    have : k = c := by omega
    subst this
    exact br_t (nI_le (Nat.le_refl _) (by omega)) (h1 hI)
  | succ d ih =>
    intro k hk hI
    obtain ⟨m, hm, hms⟩ := hT k (by omega)
    have bp := nx_bit1 hms hn hp
    have bq := nx_bit1 hms hn hq
    have v := vp_in_nI (n := k) (N := 32) (by omega) (by omega)
    refine br_f (nI_ge (by omega) (by omega)) ⟨v, v, ?_⟩
    rw [nI_clamp (by omega), hm]
    have nx : (gm_ev (Q p) (f k) = 0 ↔ gm_ev (Q q) (f k) = 0) → ∀ z, z = nI k + 1 → wX_haveSameCorners_2 post (nI p) (nI q) fc (nI c) pl co tt st (d + 1) z := by
      intro g
      refine nm_r (nI_1 k) (ih (k + 1) (by omega) (fun j hj => ?_))
      by_cases e : j = k
      · subst e; exact g
      · exact hI j (by omega)
    by_cases a : gm_ev (Q p) (f k) = 0
    · by_cases b : gm_ev (Q q) (f k) = 0
      · rw [bp.1 a, bq.1 b]
        exact br_t rfl (nx ⟨fun _ => b, fun _ => a⟩)
      · rw [bp.1 a, bq.2 b]
        exact br_f (by decide) (h0 (fun z => b ((z k (by omega)).mp a)))
    · by_cases b : gm_ev (Q q) (f k) = 0
      · rw [bp.2 a, bq.1 b]
        exact br_f (by decide) (h0 (fun z => a ((z k (by omega)).mpr b)))
      · rw [bp.2 a, bq.2 b]
        exact br_t rfl (nx ⟨fun z => absurd z a, fun z => absurd z b⟩)
theorem xw_fe2 {post : Int32 → Prop} {p : Nat} (hc : c ≤ 32) (hn : n ≤ 16) (hT : xw_T tt c n Q f) (hp : p < n) (h1 : (∃ q, q < p ∧ fa_S Q c f p q) → post 1) (h0 : ¬ (∃ q, q < p ∧ fa_S Q c f p q) → post 0) :
    ∀ d q : Nat, q + d = p → (∀ j, j < q → ¬ fa_S Q c f p j) → wX_isFaceOfEarlierPlane_2 post (nI p) fc (nI c) pl co tt st (d + 1) (nI q) := by
  intro d
  induction d with
  | zero =>
    intro q hq hI
    have : q = p := by omega
    subst this
    exact br_t (nI_le (Nat.le_refl _) (by omega)) (h0 (fun hx => by obtain ⟨j, hj, g⟩ := hx; exact hI j hj g))
  | succ d ih =>
    intro q hq hI
    refine br_f (nI_ge (by omega) (by omega)) ⟨c + 1, xw_hs2 hc hn hT hp (by omega) (fun g => ?_) (fun g => ?_) c 0 (by omega) (fun j hj => by omega)⟩
    · exact br_f (by decide) (h1 ⟨q, by omega, g⟩)
    · refine br_t rfl (nm_r (nI_1 q) (ih (q + 1) (by omega) (fun j hj => ?_)))
      by_cases e : j = q
      · subst e; exact g
      · exact hI j (by omega)
theorem gm_cn_bd (P : Nat → Prop) : ∀ c : Nat, gm_cn P c ≤ c := by
  intro c
  induction c with
  | zero => exact Nat.le_refl _
  | succ c ih =>
    by_cases e : P c
    · rw [gm_cn_t e]; omega
    · rw [gm_cn_f e]; omega
theorem xw_fa29 {post : Int32 → SX → Prop} (hc : c ≤ 32) (hn8 : n ≤ 8) (hT : xw_T tt c (6 + n) Q f) (h : post (nI (gm_cn (fa_F Q c f) (6 + n))) (nI n, nI c, pl, co, tt, st)) :
    ∀ d p : Nat, p + d = 6 + n → wX_faces_29 post (nI n) (nI c) pl co tt st (d + 1) (nI (gm_cn (fa_F Q c f) p)) (nI p) := by
  intro d
  induction d with
  | zero =>
    intro p hp
    have : p = 6 + n := by omega
    subst this
    unfold wX_faces_29
    rw [xw_66]
    exact br_t (nI_le (Nat.le_refl _) (by omega)) h
  | succ d ih =>
    intro p hp
    have nx := ih (p + 1) (by omega)
    have hb := gm_cn_bd (fun k => gm_ev (Q p) (f k) = 0) c
    unfold wX_faces_29
    rw [xw_66]
    refine br_f (nI_ge (by omega) (by omega)) (xw_cin hT hc (by omega) (by omega) ?_)
    by_cases e : gm_cn (fun k => gm_ev (Q p) (f k) = 0) c < 3
    · rw [gm_cn_f (P := fa_F Q c f) (fun z => by have := z.1; omega)] at nx
      exact br_t (nI_lt (b := 3) e (by decide)) (nm_r (nI_1 p) nx)
    · refine br_f (nI_nlt (b := 3) (by omega) (by omega)) ⟨p + 1, xw_fe2 hc (by omega) hT (by omega) (fun g => ?_) (fun g => ?_) p 0 (by omega) (fun j hj => by omega)⟩
      · rw [gm_cn_f (P := fa_F Q c f) (fun z => z.2 g)] at nx
        exact br_f (by decide) (nm_r (nI_1 p) nx)
      · rw [gm_cn_t (P := fa_F Q c f) ⟨by omega, g⟩] at nx
        exact br_t rfl (nm_r (nI_1 _) (nm_r (nI_1 p) nx))
theorem nx_Lp {p : Nat} (hp : p < 63) : (1 : Int64) <<< ((nI p).toInt64 &&& 63) = lN (2 ^ p) := by
  rw [show (1 : Int64) = lN 1 from rfl, wb_shl 1 (by omega), Nat.one_mul]
theorem yw_ip5 {post : Int64 → Prop} {s : Nat} (hT : xw_T gt c n Q f) (hc : c ≤ 32) (hn : n ≤ 16) (hs : s < n) (h : ∀ w, nu_ms w c (fun k => gm_ev (Q s) (f k) = 0) → post (lN w)) :
    ∀ d k w : Nat, k + d = c → nu_ms w k (fun k => gm_ev (Q s) (f k) = 0) → wY_inPlane_5 post (nI s) fn fp (nI c) nr nb gu gv gw gd gx gy gz gb gt gf (d + 1) (lN w) (nI k) := by
  intro d
  induction d with
  | zero =>
    intro k w hk hw
    have : k = c := by omega
    subst this
    exact br_t (nI_le (Nat.le_refl _) (by omega)) (h w hw)
  | succ d ih =>
    intro k w hk hw
    obtain ⟨m, hm, hms⟩ := hT k (by omega)
    have hb := nx_bit1 hms hn hs
    have l1 := nu_ms_lt hw
    have h32 : 2 ^ k ≤ 2 ^ 32 := Nat.pow_le_pow_right (by decide) (by omega)
    refine br_f (nI_ge (by omega) (by omega)) ⟨vp_in_nI (by omega) (by omega), ?_⟩
    rw [nI_clamp (by omega), hm]
    by_cases e : gm_ev (Q s) (f k) = 0
    · refine br_t (hb.1 e) ?_
      rw [nx_Lp (by omega), wb_or (by omega) (by omega)]
      exact nm_e (nm_r (nI_1 k) (ih (k + 1) _ (by omega) (nu_ms_t hw e)))
    · exact br_f (by rw [hb.2 e]; decide) (nm_r (nI_1 k) (ih (k + 1) w (by omega) (nu_ms_f hw e)))
theorem yw_ip {post : Int64 → Prop} {s : Nat} (hT : xw_T gt c n Q f) (hc : c ≤ 32) (hn : n ≤ 16) (hs : s < n) (h : ∀ w, nu_ms w c (fun k => gm_ev (Q s) (f k) = 0) → post (lN w)) :
    wpY_inPlane post (fn, fp, nI c, nr, nb, gu, gv, gw, gd, gx, gy, gz, gb, gt, gf) (nI s) := ⟨c + 1, yw_ip5 hT hc hn hs h c 0 0 (by omega) (nu_ms_0 _)⟩
theorem yw_fa60 {post : Int32 → SY → Prop} {J : Int32 → Int32 → Prop} {s w : Nat} {x2 : Int32} {A : Prop} (hT : xw_T gt c n Q f) (hc : c ≤ 32) (hn : n ≤ 16) (hs : s < n) (hw : nu_ms w c (fun k => gm_ev (Q s) (f k) = 0))
    (h1 : A → (¬ ∃ q, q < s ∧ fa_S Q c f s q) → J (x2 + 1) (nI (s + 1))) (h0 : ¬ (A ∧ ¬ ∃ q, q < s ∧ fa_S Q c f s q) → J x2 (nI (s + 1))) :
    ∀ (d r : Nat) (x6 : Int32), r + d = s → ((x6 = 1 ∧ A ∧ ∀ j, j < r → ¬ fa_S Q c f s j) ∨ (x6 = 0 ∧ ¬ (A ∧ ∀ j, j < r → ¬ fa_S Q c f s j))) → wY_faces_60 post J x2 (nI s) (lN w) fn (nI n) (nI c) nr nb gu gv gw gd gx gy gz gb gt gf (d + 1) x6 (nI r) := by
  intro d
  induction d with
  | zero =>
    intro r x6 hr hI
    have : r = s := by omega
    subst this
    refine br_t (nI_le (Nat.le_refl _) (by omega)) ?_
    rcases hI with ⟨rfl, a, g⟩ | ⟨rfl, g⟩
    · exact br_f (by decide) (nm_e (nm_r (nI_1 r) (h1 a (fun hx => by obtain ⟨q, hq, z⟩ := hx; exact g q hq z))))
    · exact br_t rfl (nm_r (nI_1 r) (h0 (fun z => g ⟨z.1, fun j hj y => z.2 ⟨j, hj, y⟩⟩)))
  | succ d ih =>
    intro r x6 hr hI
    have l1 := nu_ms_lt hw
    have h32 : 2 ^ c ≤ 2 ^ 32 := Nat.pow_le_pow_right (by decide) (by omega)
    refine br_f (nI_ge (by omega) (by omega)) (yw_ip hT hc hn (by omega) (fun w' hw' => ?_))
    have l2 := nu_ms_lt hw'
    refine br_c (fun e => ?_) (fun e => ?_)
    · have e' : w' = w := (pk_lEQ (by omega) (by omega)).mp e
      subst e'
      have hS : fa_S Q c f s r := by
        intro k hk
        have a := hw k
        have b := hw' k
        constructor
        · intro z; exact (b.mp (a.mpr ⟨hk, z⟩)).2
        · intro z; exact (a.mp (b.mpr ⟨hk, z⟩)).2
      exact nm_r (nI_1 r) (ih (r + 1) 0 (by omega) (.inr ⟨rfl, fun z => z.2 r (by omega) hS⟩))
    · have hS : ¬ fa_S Q c f s r := by
        intro z
        apply e
        rw [nu_ms_u hw' (nu_ms_cg (fun k hk => z k hk) hw)]
      refine nm_r (nI_1 r) (ih (r + 1) x6 (by omega) ?_)
      rcases hI with ⟨e1, a, g⟩ | ⟨e1, g⟩
      · refine .inl ⟨e1, a, fun j hj => ?_⟩
        by_cases e2 : j = r
        · subst e2; exact hS
        · exact g j (by omega)
      · exact .inr ⟨e1, fun z => g ⟨z.1, fun j hj => z.2 j (by omega)⟩⟩
/-- a plane's corners: three of them, or not a face -/
theorem fa_rank (h : dm_L Q n c f) (hc : c ≤ 32) {s r : Nat} (hs : s < n) (hx : ∃ k, k < c ∧ gm_ev (Q s) (f k) = 0)
    (hr : rk_is Q (fun i => i < n ∧ ∀ k, k < c → gm_ev (Q s) (f k) = 0 → gm_ev (Q i) (f k) = 0) r) : r = 1 ↔ 3 ≤ gm_cn (fun k => gm_ev (Q s) (f k) = 0) c := by
  obtain ⟨g, g1, g2, g3⟩ := wh_enum (fun k => gm_ev (Q s) (f k) = 0) c
  generalize gm_cn (fun k => gm_ev (Q s) (f k) = 0) c = N at *
  obtain ⟨k0, hk0, e0⟩ := hx
  obtain ⟨t0, ht0, _⟩ := g3 k0 hk0 e0
  by_cases c3 : 3 ≤ N
  · have a0 := g1 0 (by omega)
    have a1 := g1 1 (by omega)
    have a2 := g1 2 (by omega)
    have hl : r < 2 := rk_c3 (ac := fun p => p < n) (h.1.1 _ a0.1).1 (h.1.1 _ a1.1).1 (h.1.1 _ a2.1).1 (dm_npr h a0.1 a1.1 (g2 0 1 (by omega) (by omega))) (dm_npr h a1.1 a2.1 (g2 1 2 (by omega) (by omega)))
      (dm_npr h a2.1 a0.1 (fun z => g2 0 2 (by omega) (by omega) z.symm)) (fun i hi => ⟨hi.2 _ a0.1 a0.2, hi.2 _ a1.1 a1.2, hi.2 _ a2.1 a2.2⟩) hr
    have h1 : ¬ r = 0 := fun z => (rk_0 hr).mp z s ⟨hs, fun k hk e => e⟩
    exact ⟨fun _ => c3, fun _ => by omega⟩
  · refine ⟨fun e => ?_, fun e => absurd e c3⟩
    exfalso
    have : N = 1 ∨ N = 2 := by omega
    rcases this with z | z
    · subst z
      have a0 := g1 0 (by omega)
      have : r = 3 := rk_c1 (ac := fun p => p < n) (v := f (g 0)) h.2.2 (h.1.1 _ a0.1).1 (rk_cg (fun i => by
        constructor
        · intro a; exact ⟨a.1, a.2 _ a0.1 a0.2⟩
        · intro a
          refine ⟨a.1, fun k hk e => ?_⟩
          obtain ⟨t, ht, et⟩ := g3 k hk e
          have : t = 0 := by omega
          subst this
          rw [← et]; exact a.2) hr)
      omega
    · subst z
      have a0 := g1 0 (by omega)
      have a1 := g1 1 (by omega)
      have hr2 : rk_is Q (fun i => i < n ∧ (gm_ev (Q i) (f (g 0)) = 0 ∧ gm_ev (Q i) (f (g 1)) = 0)) r := rk_cg (fun i => by
        constructor
        · intro a; exact ⟨a.1, a.2 _ a0.1 a0.2, a.2 _ a1.1 a1.2⟩
        · intro a
          refine ⟨a.1, fun k hk e => ?_⟩
          obtain ⟨t, ht, et⟩ := g3 k hk e
          have : t = 0 ∨ t = 1 := by omega
          rcases this with z | z <;> subst z
          · rw [← et]; exact a.2.1
          · rw [← et]; exact a.2.2) hr
      have : r = 2 := (nb_rank h a0.1 a1.1 (g2 0 1 (by omega) (by omega)) hr2).mpr (fun m hm m1 m2 hx => by
        have em := hx s hs ⟨a0.2, a1.2⟩
        obtain ⟨t, ht, et⟩ := g3 m hm em
        have : t = 0 ∨ t = 1 := by omega
        rcases this with z | z <;> subst z
        · exact m1 et.symm
        · exact m2 et.symm)
      omega
theorem yw_fa25 {post : Int32 → SY → Prop} (hd : dm_L Q n c f) (hc : c ≤ 32) (hn : n ≤ 16) (hok : ∀ i, i < n → gm_ok (Q i)) (hQ : yw_A gu gv gw gd n Q) (hT : xw_T gt c n Q f) (h : post (nI (gm_cn (fa_F Q c f) n)) (fn, nI n, nI c, nr, nb, gu, gv, gw, gd, gx, gy, gz, gb, gt, gf)) :
    ∀ d s : Nat, s + d = n → wY_faces_25 post fn (nI n) (nI c) nr nb gu gv gw gd gx gy gz gb gt gf (d + 1) (nI (gm_cn (fa_F Q c f) s)) (nI s) := by
  intro d
  induction d with
  | zero =>
    intro s hs
    have : s = n := by omega
    subst this
    exact br_t (nI_le (Nat.le_refl _) (by omega)) h
  | succ d ih =>
    intro s hs
    have nx := ih (s + 1) (by omega)
    have K : ∀ (w : Nat) (x6 : Int32), nu_ms w c (fun k => gm_ev (Q s) (f k) = 0) → ((x6 = 1 ∧ 3 ≤ gm_cn (fun k => gm_ev (Q s) (f k) = 0) c) ∨ (x6 = 0 ∧ ¬ 3 ≤ gm_cn (fun k => gm_ev (Q s) (f k) = 0) c)) →
        wY_faces_60 post (wY_faces_25 post fn (nI n) (nI c) nr nb gu gv gw gd gx gy gz gb gt gf (d + 1)) (nI (gm_cn (fa_F Q c f) s)) (nI s) (lN w) fn (nI n) (nI c) nr nb gu gv gw gd gx gy gz gb gt gf (s + 1) x6 (nI 0) := by
      intro w x6 hw hx
      refine yw_fa60 (A := 3 ≤ gm_cn (fun k => gm_ev (Q s) (f k) = 0) c) hT hc hn (by omega) hw (fun a b => ?_) (fun a => ?_) s 0 x6 (by omega) ?_
      · rw [gm_cn_t (P := fa_F Q c f) ⟨a, b⟩] at nx
        rw [nI_1]; exact nx
      · rw [gm_cn_f (P := fa_F Q c f) (fun z => a z)] at nx
        exact nx
      · rcases hx with ⟨a, b⟩ | ⟨a, b⟩
        · exact .inl ⟨a, b, fun j hj => by omega⟩
        · exact .inr ⟨a, fun z => b z.1⟩
    refine br_f (nI_ge (by omega) (by omega)) (yw_ip hT hc hn (by omega) (fun w hw => ?_))
    refine yw_dimOf hQ hn hok hT hc hw (fun z => ?_) (fun hx r hr => ?_)
    · refine br_f (by decide) ⟨s + 1, K w 0 hw (.inr ⟨rfl, ?_⟩)⟩
      rw [sh_cn_0 c z]; omega
    · have hf := fa_rank hd hc (by omega) hx hr
      have r3 := rk_le3 hr
      by_cases e : r = 1
      · exact br_t (by rw [e]; decide) ⟨s + 1, K w 1 hw (.inl ⟨rfl, hf.mp e⟩)⟩
      · refine br_f (fun z => e ?_) ⟨s + 1, K w 0 hw (.inr ⟨rfl, fun z => e (hf.mpr z)⟩)⟩
        have : r = 0 ∨ r = 1 ∨ r = 2 ∨ r = 3 := by omega
        rcases this with y | y | y | y <;> subst y
        · exact absurd z (by decide)
        · rfl
        · exact absurd z (by decide)
        · exact absurd z (by decide)
theorem i_vc_faces {k : Nat} {u : SX} {v : SY} (I : i_Rel k u v) (hk : k + 3 ≤ 1536) : wpX_faces (fun r u' => wpY_faces (fun r' v' => r' = r ∧ i_Rel (k + 3) u' v') v) u := by
  obtain ⟨fc, ff, pl, co, tt, st⟩ := u
  obtain ⟨fn, fp, fk, nr, nb, gu, gv, gw, gd, gx, gy, gz, gb, gt, gf⟩ := v
  obtain ⟨n, M, D, e1, e2, hR⟩ := I
  dsimp only at e1 e2 hR
  subst e1 e2
  have hn8 := hR.1.1
  unfold wpX_faces
  refine xw_body hR (fun c f co tt hc hL hC hT => ?_)
  refine xw_dim hc (by omega) hT (fun d hd => ?_)
  refine br_c (fun e => ?_) (fun e => br_c (fun g => ?_) (fun g => ?_))
  · refine ⟨6 + n + 1, xw_fa29 hc hn8 hT ?_ (6 + n) 0 (by omega)⟩
    unfold wpY_faces
    refine yw_dim hR hL hc hd (fun gu gv gw gd gx gy gz gb gt g1 g3 => ?_)
    exact br_t e ⟨6 + n + 1, yw_fa25 (dm_of hR hL) hc (by omega) (fun i hi => (rl_Q_ok hR.1 i hi).1) g1 g3 ⟨rfl, n, M, D, rfl, rfl, hR⟩ (6 + n) 0 (by omega)⟩
  · unfold wpY_faces
    exact yw_dim hR hL hc hd (fun gu gv gw gd gx gy gz gb gt g1 g3 => br_f e (br_t g ⟨rfl, n, M, D, rfl, rfl, hR⟩))
  · unfold wpY_faces
    exact yw_dim hR hL hc hd (fun gu gv gw gd gx gy gz gb gt g1 g3 => br_f e (br_f g ⟨rfl, n, M, D, rfl, rfl, hR⟩))
end
end
section
/-! hops -/
section
variable {fc ff : Int32} {pl co tt st : Nat → Int32} {Q f : Nat → gm_V} {n c : Nat} {M : Nat → Nat} {D : Nat → Int}
variable {fn fp fk : Int32} {nr nb gu gv gw gd gx gy gz gb gt gf : Nat → Int32}
def ho_N (Q : Nat → gm_V) (n c : Nat) (f : Nat → gm_V) (k l : Nat) : Prop := k ≠ l ∧ nb_N Q n c f k l
/-- from every corner there is a way to every other -/
theorem ho_ev3 (a b d p : gm_V) : gm_ev (a.1 + b.1 + d.1, a.2.1 + b.2.1 + d.2.1, a.2.2.1 + b.2.2.1 + d.2.2.1, a.2.2.2 + b.2.2.2 + d.2.2.2) p = gm_ev a p + gm_ev b p + gm_ev d p := by
  simp only [gm_ev]; grind
theorem ho_conn (h : dm_L Q n c f) {k l : Nat} (hk : k < c) (hl : l < c) : ∃ t, hp_R (ho_N Q n c f) c k t l := by
  obtain ⟨⟨lw, lin, i, j, m, hi, hj, hm, hd, ei, ej, em⟩, _⟩ := h.1.1 l hl
  generalize hF : (((Q i).1 + (Q j).1 + (Q m).1, (Q i).2.1 + (Q j).2.1 + (Q m).2.1, (Q i).2.2.1 + (Q j).2.2.1 + (Q m).2.2.1, (Q i).2.2.2 + (Q j).2.2.2 + (Q m).2.2.2) : gm_V) = F
  have hFe : ∀ p, gm_ev F p = gm_ev (Q i) p + gm_ev (Q j) p + gm_ev (Q m) p := fun p => by rw [← hF]; exact ho_ev3 _ _ _ p
  have hw : ∀ v, v < c → 0 < (f v).2.2.2 := fun v hv => (h.1.1 v hv).1.1
  refine hp_conn (fun v => gm_cn (fun b => gm_ev F (f v) * (f b).2.2.2 < gm_ev F (f b) * (f v).2.2.2) c) (fun v hv hvl => ?_) _ k 0 hk rfl (Nat.le_refl _)
  have vv := (h.1.1 v hv).1
  have hneg : gm_ev F (f v) < 0 := by
    have a := vv.2.1 i hi
    have b := vv.2.1 j hj
    have d := vv.2.1 m hm
    have e := hFe (f v)
    rcases Int.lt_or_le (gm_ev F (f v)) 0 with z | z
    · exact z
    · exact absurd (gm_uniq hd (show gm_ev (Q i) (f v) = 0 by omega) (show gm_ev (Q j) (f v) = 0 by omega) (show gm_ev (Q m) (f v) = 0 by omega) ei ej em) (dm_npr h hv hl hvl)
  have hz : gm_ev F (f l) = 0 := by rw [hFe, ei, ej, em]; rfl
  have hlt : gm_ev F (f v) * (f l).2.2.2 < gm_ev F (f l) * (f v).2.2.2 := by
    rw [hz, Int.zero_mul]
    exact Int.mul_neg_of_neg_of_pos hneg lw
  obtain ⟨t, ht, htl, a, b, ha, hb, av, at', bv, bt, hc⟩ := gm_up (ac := fun p => p < n) (n := n) (fun i hi => hi) h.2.1 F vv _ (f l) (h.1.1 l hl).1 hlt (Nat.le_refl _)
  obtain ⟨u, hu, hp, he⟩ := dm_vx h ht
  have hfu : gm_ev F (f v) * (f u).2.2.2 < gm_ev F (f u) * (f v).2.2.2 := by
    have e1 := gm_pr_ev hp F
    exact gm_frac_lt' (hw v hv) ht.1 (hw u hu) htl (Int.le_of_eq e1)
  have huv : v ≠ u := fun z => by rw [← z] at hfu; omega
  refine ⟨u, hu, ⟨huv, fun x hx x1 x2 g => ?_⟩, ?_⟩
  · exact gm_col hc (h.1.1 x hx).1 vv (h.1.1 u hu).1 ⟨g a ha ⟨av, he _ at'⟩, g b hb ⟨bv, he _ bt⟩⟩ ⟨av, bv⟩ ⟨he _ at', he _ bt⟩ (dm_npr h hx hv x1) (dm_npr h hv hu huv) (dm_npr h hu hx (fun z => x2 z.symm))
  · refine gm_cn_lt c (fun x hx g => ?_) ⟨u, hu, hfu, fun z => by omega⟩
    exact gm_frac_lt (hw v hv) (hw u hu) (hw x hx) (Int.le_of_lt hfu) g
theorem ho_ex (h : dm_L Q n c f) {k l : Nat} (hk : k < c) (hl : l < c) : ∃ t, t < c ∧ hp_D (ho_N Q n c f) c k t l := by
  obtain ⟨t, ht⟩ := ho_conn h hk hl
  obtain ⟨d, _, hd⟩ := hp_ex ht
  exact ⟨d, hp_bound hl hd, hd⟩

/-- the component's steps while ring r is at corner K -/
def ho_x (N : Nat → Nat → Prop) (c s r K v : Nat) (x : Int32) : Prop :=
  (∃ t, t ≤ r ∧ hp_D N c s t v ∧ x = nI t) ∨ ((∀ t, t ≤ r → ¬ hp_D N c s t v) ∧ (∃ u, u < K ∧ hp_D N c s r u ∧ N u v) ∧ x = nI (r + 1)) ∨
  ((∀ t, t ≤ r → ¬ hp_D N c s t v) ∧ (¬ ∃ u, u < K ∧ hp_D N c s r u ∧ N u v) ∧ x = -1000002)
theorem ho_n {t : Nat} (h : t < 2 ^ 31) : ¬ nI t = -1000002 := fun e => absurd (e ▸ nI_pos' h : (0 : Int32) ≤ -1000002) (by decide)
theorem ho_x_r {N : Nat → Nat → Prop} {s r K v : Nat} {x : Int32} (hr : r < 1000) (h : ho_x N c s r K v x) : x = nI r ↔ hp_D N c s r v := by
  rcases h with ⟨t, ht, hd, e⟩ | ⟨hn, _, e⟩ | ⟨hn, _, e⟩
  · constructor
    · intro g
      have : t = r := (nI_eq (by omega) (by omega)).mp (e.symm.trans g)
      subst this; exact hd
    · intro g
      have := hp_Du hd g
      subst this; exact e
  · constructor
    · intro g
      have := (nI_eq (by omega) (by omega)).mp (e.symm.trans g)
      omega
    · intro g; exact absurd g (hn r (Nat.le_refl _))
  · constructor
    · intro g; exact absurd (g.symm.trans e) (ho_n (by omega))
    · intro g; exact absurd g (hn r (Nat.le_refl _))
theorem ho_x_skip {N : Nat → Nat → Prop} {s r K v : Nat} {x : Int32} (hK : ¬ (hp_D N c s r K ∧ N K v)) (h : ho_x N c s r K v x) : ho_x N c s r (K + 1) v x := by
  rcases h with ⟨t, ht, hd, e⟩ | ⟨hn, ⟨u, hu, a, b⟩, e⟩ | ⟨hn, hx, e⟩
  · exact .inl ⟨t, ht, hd, e⟩
  · exact .inr (.inl ⟨hn, ⟨u, by omega, a, b⟩, e⟩)
  · refine .inr (.inr ⟨hn, fun hy => ?_, e⟩)
    obtain ⟨u, hu, a, b⟩ := hy
    by_cases z : u = K
    · subst z; exact hK ⟨a, b⟩
    · exact hx ⟨u, by omega, a, b⟩
theorem ho_x_old {N : Nat → Nat → Prop} {s r K v : Nat} {x : Int32} (hx : x ≠ -1000002) (h : ho_x N c s r K v x) : ho_x N c s r (K + 1) v x := by
  rcases h with ⟨t, ht, hd, e⟩ | ⟨hn, ⟨u, hu, a, b⟩, e⟩ | ⟨hn, _, e⟩
  · exact .inl ⟨t, ht, hd, e⟩
  · exact .inr (.inl ⟨hn, ⟨u, by omega, a, b⟩, e⟩)
  · exact absurd e hx
theorem ho_x_new {N : Nat → Nat → Prop} {s r K v : Nat} {x : Int32} (hr : r < 1000) (hx : x = -1000002) (h : ho_x N c s r K v x) (hK : hp_D N c s r K) (hN : N K v) : ho_x N c s r (K + 1) v (nI (r + 1)) := by
  rcases h with ⟨t, ht, hd, e⟩ | ⟨hn, _, e⟩ | ⟨hn, _, e⟩
  · exact absurd (e.symm.trans hx) (ho_n (by omega))
  · exact absurd (e.symm.trans hx) (ho_n (by omega))
  · exact .inr (.inl ⟨hn, ⟨K, by omega, hK, hN⟩, rfl⟩)
theorem ho_x_ring {N : Nat → Nat → Prop} {s r v : Nat} {x : Int32} (h : ho_x N c s r c v x) : ho_x N c s (r + 1) 0 v x := by
  rcases h with ⟨t, ht, hd, e⟩ | ⟨hn, ⟨u, hu, a, b⟩, e⟩ | ⟨hn, hx, e⟩
  · exact .inl ⟨t, by omega, hd, e⟩
  · obtain ⟨d, hd, hD⟩ := hp_Dn hu a b
    have : d = r + 1 := by
      by_cases z : d = r + 1
      · exact z
      · exact absurd hD (hn d (by omega))
    subst this
    exact .inl ⟨r + 1, Nat.le_refl _, hD, e⟩
  · refine .inr (.inr ⟨fun t ht g => ?_, fun hy => ?_, e⟩)
    · by_cases z : t = r + 1
      · subst z
        obtain ⟨u, hu, a, b⟩ := hp_Ds g
        exact hx ⟨u, hu, a, b⟩
      · exact hn t (by omega) g
    · obtain ⟨u, hu, _⟩ := hy
      omega
theorem xw_re2 {post : SX → Prop} {s r K : Nat} (hc : c ≤ 32) (hn : n ≤ 16) (hT : xw_T tt c n Q f) (hr : r < 1000) (hK : K < c) (hD : hp_D (ho_N Q n c f) c s r K)
    (h : ∀ st, (∀ v, v < c → ho_x (ho_N Q n c f) c s r (K + 1) v (st v)) → post (fc, nI c, pl, co, tt, st)) :
    ∀ (d l : Nat) (st : Nat → Int32), l + d = c → (∀ v, v < l → ho_x (ho_N Q n c f) c s r (K + 1) v (st v)) → (∀ v, l ≤ v → v < c → ho_x (ho_N Q n c f) c s r K v (st v)) →
      wX_reachNeighbours_2 post (nI K) fc (nI c) (d + 1) (nI l) pl co tt st := by
  intro d
  induction d with
  | zero =>
    intro l st hl h1 h2
    have : l = c := by omega
    subst this
    exact br_t (nI_le (Nat.le_refl _) (by omega)) (h st h1)
  | succ d ih =>
    intro l st hl h1 h2
    have hxl := h2 l (by omega) (by omega)
    have hsK : st K = nI r := by
      by_cases e : K < l
      · exact (ho_x_r hr (h1 K e)).mpr hD
      · exact (ho_x_r hr (h2 K (by omega) hK)).mpr hD
    have nx : ho_x (ho_N Q n c f) c s r (K + 1) l (st l) → ∀ z, z = nI l + 1 → wX_reachNeighbours_2 post (nI K) fc (nI c) (d + 1) z pl co tt st := by
      intro g
      refine nm_r (nI_1 l) (ih (l + 1) st (by omega) (fun v hv => ?_) (fun v a b => h2 v (by omega) b))
      by_cases e : v = l
      · subst e; exact g
      · exact h1 v (by omega)
    refine br_f (nI_ge (by omega) (by omega)) ⟨vp_in_nI (by omega) (by omega), ?_⟩
    rw [nI_clamp (by omega)]
    refine br_c (fun e => ?_) (fun e => nx (ho_x_old e hxl))
    have hKl : K ≠ l := fun z => by
      subst z
      exact ho_n (by omega) (hsK.symm.trans e)
    refine xw_nb hc hn hT hK (by omega) (fun g => ?_) (fun g => br_t rfl (nx (ho_x_skip (fun z => g z.2.2) hxl)))
    refine br_f (by decide) ⟨vp_in_nI (by omega) (by omega), vp_in_nI (by omega) (by omega), ?_⟩
    rw [nI_clamp (by omega), hsK, nI_1 r]
    refine nm_e (nm_r (nI_1 l) (ih (l + 1) _ (by omega) (fun v hv => ?_) (fun v a b => ?_)))
    · by_cases z : v = l
      · subst z; rw [pk_us]; exact ho_x_new hr e hxl hD ⟨hKl, g⟩
      · rw [pk_un z]; exact h1 v (by omega)
    · rw [pk_un (by omega)]; exact h2 v (by omega) b
theorem xw_cs45 {post : SX → Prop} {J : Int32 → Int32 → Int32 → (Nat → Int32) → (Nat → Int32) → (Nat → Int32) → (Nat → Int32) → Prop} {s r : Nat} (hc : c ≤ 32) (hn : n ≤ 16) (hT : xw_T tt c n Q f) (hr : r < 1000)
    (h : ∀ st, (∀ v, v < c → ho_x (ho_N Q n c f) c s r c v (st v)) → J (nI (r + 1)) fc (nI c) pl co tt st) :
    ∀ (d K : Nat) (st : Nat → Int32), K + d = c → (∀ v, v < c → ho_x (ho_N Q n c f) c s r K v (st v)) → wX_countStepsFrom_45 post J (nI r) (d + 1) (nI K) fc (nI c) pl co tt st := by
  intro d
  induction d with
  | zero =>
    intro K st hK h1
    have : K = c := by omega
    subst this
    exact br_t (nI_le (Nat.le_refl _) (by omega)) (nm_r (nI_1 r) (h st h1))
  | succ d ih =>
    intro K st hK h1
    have hx := ho_x_r hr (h1 K (by omega))
    refine br_f (nI_ge (by omega) (by omega)) ⟨vp_in_nI (by omega) (by omega), ?_⟩
    rw [nI_clamp (by omega)]
    refine br_c (fun e => ?_) (fun e => ?_)
    · refine ⟨c + 1, xw_re2 hc hn hT hr (by omega) (hx.mp e) (fun st' h2 => ?_) c 0 st (by omega) (fun v hv => by omega) (fun v _ b => h1 v b)⟩
      exact nm_r (nI_1 K) (ih (K + 1) st' (by omega) h2)
    · exact nm_r (nI_1 K) (ih (K + 1) st (by omega) (fun v hv => ho_x_skip (fun z => e (hx.mpr z.1)) (h1 v hv)))
theorem xw_cs35 {post : SX → Prop} {s : Nat} (hc : c ≤ 32) (hn : n ≤ 16) (hT : xw_T tt c n Q f) (h : ∀ st, (∀ v, v < c → ho_x (ho_N Q n c f) c s c 0 v (st v)) → post (fc, nI c, pl, co, tt, st)) :
    ∀ (d r : Nat) (st : Nat → Int32), r + d = c → (∀ v, v < c → ho_x (ho_N Q n c f) c s r 0 v (st v)) → wX_countStepsFrom_35 post (d + 1) (nI r) fc (nI c) pl co tt st := by
  intro d
  induction d with
  | zero =>
    intro r st hr h1
    have : r = c := by omega
    subst this
    exact br_t (nI_le (Nat.le_refl _) (by omega)) (h st h1)
  | succ d ih =>
    intro r st hr h1
    exact br_f (nI_ge (by omega) (by omega)) ⟨c + 1, xw_cs45 hc hn hT (by omega) (fun st' h2 => ih (r + 1) st' (by omega) (fun v hv => ho_x_ring (h2 v hv))) c 0 st (by omega) h1⟩
theorem xw_cs2 {post : SX → Prop} {s : Nat} (hc : c ≤ 32) (hn : n ≤ 16) (hT : xw_T tt c n Q f) (hs : s < c) (h : ∀ st, (∀ v, v < c → ho_x (ho_N Q n c f) c s c 0 v (st v)) → post (fc, nI c, pl, co, tt, st)) :
    ∀ (d k : Nat) (st : Nat → Int32), k + d = c → (∀ v, v < k → st v = if v = s then 0 else -1000002) → wX_countStepsFrom_2 post (nI s) fc (nI c) (d + 1) (nI k) pl co tt st := by
  intro d
  induction d with
  | zero =>
    intro k st hk h1
    have : k = c := by omega
    subst this
    refine br_t (nI_le (Nat.le_refl _) (by omega)) ⟨k + 1, xw_cs35 hc hn hT h k 0 st (by omega) (fun v hv => ?_)⟩
    have := h1 v hv
    by_cases e : v = s
    · subst e
      rw [if_pos rfl] at this
      exact .inl ⟨0, Nat.le_refl _, hp_Dk, this⟩
    · rw [if_neg e] at this
      refine .inr (.inr ⟨fun t ht g => ?_, fun hy => ?_, this⟩)
      · have : t = 0 := by omega
        subst this
        exact e (hp_D0 g)
      · obtain ⟨u, hu, _⟩ := hy
        omega
  | succ d ih =>
    intro k st hk h1
    refine br_f (nI_ge (by omega) (by omega)) ?_
    rw [nI_clamp (by omega)]
    by_cases e : k = s
    · refine br_t (by rw [e]) ⟨vp_in_nI (by omega) (by omega), nm_e (nm_r (nI_1 k) (ih (k + 1) _ (by omega) (fun v hv => ?_)))⟩
      by_cases z : v = k
      · subst z; rw [pk_us, if_pos e]
      · rw [pk_un z]; exact h1 v (by omega)
    · refine br_f (fun z => e ((nI_eq (by omega) (by omega)).mp z)) ⟨vp_in_nI (by omega) (by omega), nm_e (nm_r (nI_1 k) (ih (k + 1) _ (by omega) (fun v hv => ?_)))⟩
      by_cases z : v = k
      · subst z; rw [pk_us, if_neg e]
      · rw [pk_un z]; exact h1 v (by omega)
theorem xw_cs {post : SX → Prop} {s : Nat} (hc : c ≤ 32) (hn : n ≤ 16) (hT : xw_T tt c n Q f) (hs : s < c) (h : ∀ st, (∀ v t, v < c → t < c → hp_D (ho_N Q n c f) c s t v → st v = nI t) → post (fc, nI c, pl, co, tt, st)) :
    wpX_countStepsFrom post (fc, nI c, pl, co, tt, st) (nI s) := by
  refine ⟨c + 1, xw_cs2 hc hn hT hs (fun st' h1 => h st' (fun v t hv ht hd => ?_)) c 0 st (by omega) (fun v hv => by omega)⟩
  rcases h1 v hv with ⟨t', _, hd', e⟩ | ⟨hn, _, _⟩ | ⟨hn, _, _⟩
  · have := hp_Du hd hd'
    subst this; exact e
  · exact absurd hd (hn t (by omega))
  · exact absurd hd (hn t (by omega))

/-- the reference's distances -/
def ho_y (N : Nat → Nat → Prop) (c s : Nat) (a : Nat → Nat) : Prop := ∀ v, v < c → a v ≤ 100 ∧ (a v = 100 ∨ hp_R N c s (a v) v)
def ho_a (g : Nat → Int32) (c : Nat) (a : Nat → Nat) : Prop := ∀ v, v < c → g v = nI (a v)
theorem ho_y_upd {N : Nat → Nat → Prop} {s i j : Nat} {a : Nat → Nat} (h : ho_y N c s a) (hi : i < c) (hj : j < c) (hN : N i j) (hl : a i + 1 < a j) : ho_y N c s (fun v => if v = j then a i + 1 else a v) := by
  intro v hv
  by_cases e : v = j
  · subst e
    simp only [if_pos]
    have h1 := (h v hv).1
    refine ⟨by omega, .inr (.inr ⟨i, hi, ?_, hN⟩)⟩
    rcases (h i hi).2 with z | z
    · omega
    · exact z
  · simp only [if_neg e]; exact h v hv
theorem yw_sp12 {post : SY → Prop} {J : Int32 → (Nat → Int32) → (Nat → Int32) → (Nat → Int32) → (Nat → Int32) → (Nat → Int32) → (Nat → Int32) → (Nat → Int32) → (Nat → Int32) → (Nat → Int32) → (Nat → Int32) → (Nat → Int32) → (Nat → Int32) → Prop}
    {s i : Nat} {a0 : Nat → Nat} (hd : dm_L Q n c f) (hc : c ≤ 32) (hn : n ≤ 16) (hok : ∀ i, i < n → gm_ok (Q i)) (hQ : yw_A gu gv gw gd n Q) (hT : xw_T gt c n Q f) (hi : i < c)
    (h : ∀ gf a, ho_a gf c a → ho_y (ho_N Q n c f) c s a → (∀ v, v < c → a v ≤ a0 v) → (∀ x y, x < c → y < c → x ≤ i → ho_N Q n c f x y → a y ≤ a0 x + 1) → J (nI (i + 1)) nr nb gu gv gw gd gx gy gz gb gt gf) :
    ∀ (d j : Nat) (gf : Nat → Int32) (a : Nat → Nat), j + d = c → ho_a gf c a → ho_y (ho_N Q n c f) c s a → (∀ v, v < c → a v ≤ a0 v) → (∀ x y, x < c → y < c → (x < i ∨ (x = i ∧ y < j)) → ho_N Q n c f x y → a y ≤ a0 x + 1) →
      wY_spread_12 post J (nI i) fn (nI n) (nI c) (d + 1) (nI j) nr nb gu gv gw gd gx gy gz gb gt gf := by
  intro d
  induction d with
  | zero =>
    intro j gf a hj ha hy h1 h2
    have : j = c := by omega
    subst this
    exact br_t (nI_le (Nat.le_refl _) (by omega)) (nm_r (nI_1 i) (h gf a ha hy h1 (fun x y hx hy' hxi => h2 x y hx hy' (by omega))))
  | succ d ih =>
    intro j gf a hj ha hy h1 h2
    have ai := (hy i hi).1
    have aj := (hy j (by omega)).1
    have nx : (ho_N Q n c f i j → a j ≤ a0 i + 1) → ∀ z, z = nI j + 1 → wY_spread_12 post J (nI i) fn (nI n) (nI c) (d + 1) z nr nb gu gv gw gd gx gy gz gb gt gf := by
      intro g
      refine nm_r (nI_1 j) (ih (j + 1) gf a (by omega) ha hy h1 (fun x y hx hy' hxi hN => ?_))
      by_cases e : x = i ∧ y = j
      · obtain ⟨e1, e2⟩ := e
        subst e1 e2; exact g hN
      · exact h2 x y hx hy' (by omega) hN
    refine br_f (nI_ge (by omega) (by omega)) ⟨vp_in_nI (by omega) (by omega), vp_in_nI (by omega) (by omega), ?_⟩
    rw [nI_clamp (by omega), nI_clamp (by omega), ha i hi, ha j (by omega), nI_1 (a i)]
    have a0i := h1 i hi
    by_cases e : a j ≤ a i + 1
    · exact br_t (nI_le e (by omega)) (nx (fun _ => by omega))
    · refine br_f (nI_ge (by omega) (by omega)) (yw_nb hd hc hn hok hQ hT hi (by omega) (fun g1 g2 => ?_) (fun g => br_t rfl (nx (fun hN => ?_))))
      · refine br_f (by decide) ⟨vp_in_nI (by omega) (by omega), vp_in_nI (by omega) (by omega), nm_e (nm_r (nI_1 j) (ih (j + 1) _ (fun v => if v = j then a i + 1 else a v) (by omega) (fun v hv => ?_)
          (ho_y_upd hy hi (by omega) ⟨g1, g2⟩ (by omega)) (fun v hv => ?_) (fun x y hx hy' hxi hN => ?_)))⟩
        · by_cases z : v = j
          · subst z; rw [pk_us]; simp
          · rw [pk_un z]; simp only [if_neg z]; exact ha v hv
        · have := h1 v hv
          by_cases z : v = j
          · subst z; simp; omega
          · simp only [if_neg z]; exact this
        · by_cases z : y = j
          · subst z
            simp only [if_pos]
            by_cases w : x = i
            · subst w; omega
            · have := h2 x y hx hy' (by omega) hN
              omega
          · simp only [if_neg z]; exact h2 x y hx hy' (by omega) hN
      · rcases g with g | g
        · exact absurd g hN.1
        · exact absurd hN.2 g
theorem yw_sp2 {post : SY → Prop} {s : Nat} {a0 : Nat → Nat} (hd : dm_L Q n c f) (hc : c ≤ 32) (hn : n ≤ 16) (hok : ∀ i, i < n → gm_ok (Q i)) (hQ : yw_A gu gv gw gd n Q) (hT : xw_T gt c n Q f)
    (h : ∀ gf a, ho_a gf c a → ho_y (ho_N Q n c f) c s a → (∀ v, v < c → a v ≤ a0 v) → (∀ x y, x < c → y < c → ho_N Q n c f x y → a y ≤ a0 x + 1) → post (fn, nI n, nI c, nr, nb, gu, gv, gw, gd, gx, gy, gz, gb, gt, gf)) :
    ∀ (d i : Nat) (gf : Nat → Int32) (a : Nat → Nat), i + d = c → ho_a gf c a → ho_y (ho_N Q n c f) c s a → (∀ v, v < c → a v ≤ a0 v) → (∀ x y, x < c → y < c → x < i → ho_N Q n c f x y → a y ≤ a0 x + 1) →
      wY_spread_2 post fn (nI n) (nI c) (d + 1) (nI i) nr nb gu gv gw gd gx gy gz gb gt gf := by
  intro d
  induction d with
  | zero =>
    intro i gf a hi ha hy h1 h2
    have : i = c := by omega
    subst this
    exact br_t (nI_le (Nat.le_refl _) (by omega)) (h gf a ha hy h1 (fun x y hx hy' => h2 x y hx hy' hx))
  | succ d ih =>
    intro i gf a hi ha hy h1 h2
    exact br_f (nI_ge (by omega) (by omega)) ⟨c + 1, yw_sp12 hd hc hn hok hQ hT (by omega) (fun gf a b1 b2 b3 b4 => ih (i + 1) gf a (by omega) b1 b2 b3 (fun x y hx hy' hxi => b4 x y hx hy' (by omega))) c 0 gf a (by omega) ha hy h1
      (fun x y hx hy' hxi => h2 x y hx hy' (by omega))⟩
theorem yw_ho72 {post : Int32 → SY → Prop} {s l : Nat} (hd : dm_L Q n c f) (hc : c ≤ 32) (hn : n ≤ 16) (hok : ∀ i, i < n → gm_ok (Q i)) (hQ : yw_A gu gv gw gd n Q) (hT : xw_T gt c n Q f) (hl : l < c)
    (h : ∀ gf a, ho_y (ho_N Q n c f) c s a → (∀ t v, v < c → t ≤ c → hp_R (ho_N Q n c f) c s t v → a v ≤ t) → post (nI (a l)) (fn, nI n, nI c, nr, nb, gu, gv, gw, gd, gx, gy, gz, gb, gt, gf)) :
    ∀ (d r : Nat) (gf : Nat → Int32) (a : Nat → Nat), r + d = c → ho_a gf c a → ho_y (ho_N Q n c f) c s a → (∀ t v, v < c → t ≤ r → hp_R (ho_N Q n c f) c s t v → a v ≤ t) → wY_hops_72 post (nI l) (d + 1) (nI r) fn (nI n) (nI c) nr nb gu gv gw gd gx gy gz gb gt gf := by
  intro d
  induction d with
  | zero =>
    intro r gf a hr ha hy h1
    have : r = c := by omega
    subst this
    refine br_t (nI_le (Nat.le_refl _) (by omega)) ⟨vp_in_nI (by omega) (by omega), ?_⟩
    rw [nI_clamp (by omega), ha l hl]
    exact h gf a hy h1
  | succ d ih =>
    intro r gf a hr ha hy h1
    refine br_f (nI_ge (by omega) (by omega)) ⟨c + 1, yw_sp2 (a0 := a) hd hc hn hok hQ hT (fun gf' a' b1 b2 b3 b4 => ?_) c 0 gf a (by omega) ha hy (fun _ _ => Nat.le_refl _) (fun x y _ _ hx => by omega)⟩
    refine nm_r (nI_1 r) (ih (r + 1) gf' a' (by omega) b1 b2 (fun t v hv ht hR => ?_))
    cases t with
    | zero =>
      have a1 := h1 0 v hv (by omega) hR
      have a2 := b3 v hv
      omega
    | succ t =>
      rcases hR with hR | ⟨u, hu, hR, hN⟩
      · have a1 := h1 t v hv (by omega) hR
        have a2 := b3 v hv
        omega
      · have a1 := h1 t u hu (by omega) hR
        have a2 := b4 u v hu hv hN
        omega
theorem yw_ho39 {post : Int32 → SY → Prop} {s l : Nat} (hd : dm_L Q n c f) (hc : c ≤ 32) (hn : n ≤ 16) (hok : ∀ i, i < n → gm_ok (Q i)) (hQ : yw_A gu gv gw gd n Q) (hT : xw_T gt c n Q f) (hs : s < c) (hl : l < c)
    (h : ∀ gf a, ho_y (ho_N Q n c f) c s a → (∀ t v, v < c → t ≤ c → hp_R (ho_N Q n c f) c s t v → a v ≤ t) → post (nI (a l)) (fn, nI n, nI c, nr, nb, gu, gv, gw, gd, gx, gy, gz, gb, gt, gf)) :
    ∀ (d k : Nat) (gf : Nat → Int32), k + d = c → (∀ v, v < k → gf v = if v = s then 0 else 100) → wY_hops_39 post (nI s) (nI l) fn (nI n) (nI c) (d + 1) (nI k) nr nb gu gv gw gd gx gy gz gb gt gf := by
  intro d
  induction d with
  | zero =>
    intro k gf hk h1
    have : k = c := by omega
    subst this
    refine br_t (nI_le (Nat.le_refl _) (by omega)) ⟨k + 1, yw_ho72 (s := s) hd hc hn hok hQ hT hl h k 0 gf (fun v => if v = s then 0 else 100) (by omega) (fun v hv => ?_) (fun v hv => ?_) (fun t v hv ht hR => ?_)⟩
    · rw [h1 v hv]
      by_cases e : v = s
      · simp only [if_pos e]; rfl
      · simp only [if_neg e]; rfl
    · by_cases e : v = s
      · simp only [if_pos e]; exact ⟨by omega, .inr e⟩
      · simp only [if_neg e]; exact ⟨by omega, .inl (by trivial)⟩
    · have : t = 0 := by omega
      subst this
      have e : v = s := hR
      simp only [if_pos e]
      omega
  | succ d ih =>
    intro k gf hk h1
    refine br_f (nI_ge (by omega) (by omega)) ?_
    rw [nI_clamp (by omega)]
    by_cases e : k = s
    · refine br_t (by rw [e]) ⟨vp_in_nI (by omega) (by omega), nm_e (nm_r (nI_1 k) (ih (k + 1) _ (by omega) (fun v hv => ?_)))⟩
      by_cases z : v = k
      · subst z; rw [pk_us, if_pos e]
      · rw [pk_un z]; exact h1 v (by omega)
    · refine br_f (fun z => e ((nI_eq (by omega) (by omega)).mp z)) ⟨vp_in_nI (by omega) (by omega), nm_e (nm_r (nI_1 k) (ih (k + 1) _ (by omega) (fun v hv => ?_)))⟩
      by_cases z : v = k
      · subst z; rw [pk_us, if_neg e]
      · rw [pk_un z]; exact h1 v (by omega)
theorem i_vc_hops {k : Nat} {u : SX} {v : SY} (I : i_Rel k u v) (hk : k + 3 ≤ 1536) (v1 : Int32) (v2 : Int32) : wpX_hops (fun r u' => wpY_hops (fun r' v' => r' = r ∧ i_Rel (k + 3) u' v') v v1 v2) u v1 v2 := by
  obtain ⟨fc, ff, pl, co, tt, st⟩ := u
  obtain ⟨fn, fp, fk, nr, nb, gu, gv, gw, gd, gx, gy, gz, gb, gt, gf⟩ := v
  obtain ⟨n, M, D, e1, e2, hR⟩ := I
  dsimp only at e1 e2 hR
  subst e1 e2
  have hn8 := hR.1.1
  unfold wpX_hops
  refine xw_body hR (fun c f co tt hc hL hC hT => ?_)
  have hdm := dm_of hR hL
  refine xw_isK (by omega) (fun s hs es => ?_) (fun hx => ?_)
  · subst es
    refine br_f (by decide) (xw_isK (by omega) (fun l hl el => ?_) (fun hx => ?_))
    · subst el
      obtain ⟨t, ht, hD⟩ := ho_ex hdm hs hl
      refine br_f (by decide) (xw_cs hc (by omega) hT hs (fun st' h1 => ?_))
      refine ⟨vp_in_nI (by omega) (by omega), ?_⟩
      rw [nI_clamp (by omega), h1 l t hl ht hD]
      unfold wpY_hops
      refine yw_find2 hR hL (fun gu gv gw gd gx gy gz gb gt g1 g2 g3 => ?_)
      refine yw_ix (c := c) (by omega) rfl (fun _ _ _ => br_f (by decide) ?_) (fun hx => absurd ⟨s, hs, rfl⟩ hx)
      refine yw_ix (c := c) (by omega) rfl (fun _ _ _ => br_f (by decide) ?_) (fun hx => absurd ⟨l, hl, rfl⟩ hx)
      refine ⟨c + 1, yw_ho39 hdm hc (by omega) (fun i hi => (rl_Q_ok hR.1 i hi).1) g1 g3 hs hl (fun gf' a b1 b2 => ⟨?_, n, M, D, rfl, rfl, hR⟩) c 0 gf (by omega) (fun v hv => by omega)⟩
      have a1 := b2 t l hl (by omega) hD.1
      have a2 : a l = t := by
        rcases (b1 l hl).2 with z | z
        · omega
        · rcases Nat.lt_or_ge (a l) t with y | y
          · exact absurd z (hD.2 _ y)
          · omega
      rw [a2]
    · refine br_t rfl ?_
      unfold wpY_hops
      refine yw_find2 hR hL (fun gu gv gw gd gx gy gz gb gt g1 g2 g3 => ?_)
      refine yw_ix (c := c) (by omega) rfl (fun _ _ _ => br_f (by decide) ?_) (fun hx => absurd ⟨s, hs, rfl⟩ hx)
      exact yw_ix (c := c) (by omega) rfl (fun j hj ej => absurd ⟨j, hj, ej⟩ hx) (fun _ => br_t rfl ⟨rfl, n, M, D, rfl, rfl, hR⟩)
  · refine br_t rfl ?_
    unfold wpY_hops
    refine yw_find2 hR hL (fun gu gv gw gd gx gy gz gb gt g1 g2 g3 => ?_)
    exact yw_ix (c := c) (by omega) rfl (fun j hj ej => absurd ⟨j, hj, ej⟩ hx) (fun _ => br_t rfl ⟨rfl, n, M, D, rfl, rfl, hR⟩)
end
end
section
/-! shadow -/
section
/-- first by the one coordinate, then by the other -/
def sd_lt (x y w : Nat → Int) (k l : Nat) : Prop := x k * w l < x l * w k ∨ (x k * w l = x l * w k ∧ y k * w l < y l * w k)
theorem sd_trans {x y w : Nat → Int} {j k l : Nat} (hj : 0 < w j) (hk : 0 < w k) (hl : 0 < w l) (h1 : sd_lt x y w j k) (h2 : sd_lt x y w k l) : sd_lt x y w j l := by
  rcases h1 with h1 | ⟨e1, h1⟩
  · left
    rcases h2 with h2 | ⟨e2, _⟩
    · exact gm_frac_lt hj hk hl (Int.le_of_lt h1) h2
    · exact gm_frac_lt' hj hk hl h1 (Int.le_of_eq e2)
  · rcases h2 with h2 | ⟨e2, h2⟩
    · left; exact gm_frac_lt hj hk hl (Int.le_of_eq e1) h2
    · right; exact ⟨gm_frac_eq hk e1 e2, gm_frac_lt hj hk hl (Int.le_of_lt h1) h2⟩
theorem sd_sign {K t d e : Int} (hK : 0 < K) (h : K * e = t * d) :
    (0 < t → ((0 < e ↔ 0 < d) ∧ (e < 0 ↔ d < 0))) ∧ (t < 0 → ((0 < e ↔ d < 0) ∧ (e < 0 ↔ 0 < d))) ∧ (t = 0 → e = 0) := by
  have P : (0 < K * e ↔ 0 < e) ∧ (K * e < 0 ↔ e < 0) := by
    rcases Int.lt_trichotomy e 0 with g | g | g
    · have := gm_pn hK g
      omega
    · subst g; simp
    · have := gm_pp hK g
      omega
  refine ⟨fun ht => ?_, fun ht => ?_, fun ht => ?_⟩
  · rcases Int.lt_trichotomy d 0 with g | g | g
    · have := gm_pn ht g
      omega
    · subst g
      rw [Int.mul_zero] at h
      omega
    · have := gm_pp ht g
      omega
  · rcases Int.lt_trichotomy d 0 with g | g | g
    · have := Int.mul_pos_of_neg_of_neg ht g
      omega
    · subst g
      rw [Int.mul_zero] at h
      omega
    · have := Int.mul_neg_of_neg_of_pos ht g
      omega
  · subst ht
    rw [Int.zero_mul] at h
    omega
variable {x y w : Nat → Int} {c : Nat}
/-- on one ray, farther by the measure is farther by the order -/
theorem sd_far {a b : Int} {p q k : Nat} (wp : 0 < w p) (hq : 0 < sh_h x y w a b p q) (h0 : sh_C x y w p q k = 0) :
    (sd_lt x y w p q → (sd_lt x y w q k ↔ sh_h x y w a b p q * w k < sh_h x y w a b p k * w q)) ∧ (sd_lt x y w q p → (sd_lt x y w k q ↔ sh_h x y w a b p q * w k < sh_h x y w a b p k * w q)) := by
  obtain ⟨r1, r2⟩ := sh_ray (a := a) (b := b) h0
  have k1 : (sh_h x y w a b p q * w p) * sh_u x w q k = (sh_h x y w a b p k * w q - sh_h x y w a b p q * w k) * sh_u x w p q := by
    have : w p * sh_u x w q k = w q * sh_u x w p k - w k * sh_u x w p q := by simp only [sh_u]; grind
    grind
  have k2 : (sh_h x y w a b p q * w p) * sh_u y w q k = (sh_h x y w a b p k * w q - sh_h x y w a b p q * w k) * sh_u y w p q := by
    have : w p * sh_u y w q k = w q * sh_u y w p k - w k * sh_u y w p q := by simp only [sh_u]; grind
    grind
  have hK := gm_pp hq wp
  have s1 := sd_sign hK k1
  have s2 := sd_sign hK k2
  have t1 : sd_lt x y w p q ↔ (0 < sh_u x w p q ∨ (sh_u x w p q = 0 ∧ 0 < sh_u y w p q)) := by simp only [sd_lt, sh_u]; omega
  have t2 : sd_lt x y w q k ↔ (0 < sh_u x w q k ∨ (sh_u x w q k = 0 ∧ 0 < sh_u y w q k)) := by simp only [sd_lt, sh_u]; omega
  have t3 : sd_lt x y w q p ↔ (sh_u x w p q < 0 ∨ (sh_u x w p q = 0 ∧ sh_u y w p q < 0)) := by simp only [sd_lt, sh_u]; omega
  have t4 : sd_lt x y w k q ↔ (sh_u x w q k < 0 ∨ (sh_u x w q k = 0 ∧ sh_u y w q k < 0)) := by simp only [sd_lt, sh_u]; omega
  rw [t1, t2, t3, t4]
  generalize sh_u x w p q = dx at *
  generalize sh_u y w p q = dy at *
  generalize sh_u x w q k = ex at *
  generalize sh_u y w q k = ey at *
  rcases Int.lt_trichotomy (sh_h x y w a b p k * w q - sh_h x y w a b p q * w k) 0 with g | g | g
  · have u1 := s1.2.1 g
    have u2 := s2.2.1 g
    omega
  · have u1 := s1.2.2 g
    have u2 := s2.2.2 g
    omega
  · have u1 := s1.1 g
    have u2 := s2.1 g
    omega
theorem sd_Gkk (a b : Int) (p k : Nat) : sh_G x y w a b p k k := .inr ⟨by simp only [sh_C]; grind, Int.le_refl _⟩
/-- what the scan for the next one knows before k -/
def sd_S (x y w : Nat → Int) (c : Nat) (a b : Int) (p k q : Nat) : Prop :=
  (q = p ∧ ∀ j, j < k → sh_sm x y w j p) ∨ (q < c ∧ ¬ sh_sm x y w q p ∧ ∀ j, j < k → ¬ sh_sm x y w j p → sh_G x y w a b p q j)
theorem sd_S_first {a b : Int} {p k q : Nat} (hk : k < c) (hn : ¬ sh_sm x y w k p) (hq : q = p) (h : sd_S x y w c a b p k q) : sd_S x y w c a b p (k + 1) k := by
  refine .inr ⟨hk, hn, fun j hj jn => ?_⟩
  by_cases e : j = k
  · subst e; exact sd_Gkk _ _ _ _
  · rcases h with ⟨_, h⟩ | ⟨_, h, _⟩
    · exact absurd (h j (by omega)) jn
    · exact absurd (show sh_sm x y w q p by rw [hq]; exact sh_sm_refl p) h
theorem sd_S_same {a b : Int} {p k q : Nat} (hs : sh_sm x y w k p) (h : sd_S x y w c a b p k q) : sd_S x y w c a b p (k + 1) q := by
  rcases h with ⟨e, h⟩ | ⟨h1, h2, h3⟩
  · refine .inl ⟨e, fun j hj => ?_⟩
    by_cases z : j = k
    · subst z; exact hs
    · exact h j (by omega)
  · refine .inr ⟨h1, h2, fun j hj jn => ?_⟩
    by_cases z : j = k
    · subst z; exact absurd hs jn
    · exact h3 j (by omega) jn
theorem sd_S_keep {a b : Int} {p k q : Nat} (hG : sh_G x y w a b p q k) (hq : q ≠ p) (h : sd_S x y w c a b p k q) : sd_S x y w c a b p (k + 1) q := by
  rcases h with ⟨e, h⟩ | ⟨h1, h2, h3⟩
  · exact absurd e hq
  · refine .inr ⟨h1, h2, fun j hj jn => ?_⟩
    by_cases z : j = k
    · subst z; exact hG
    · exact h3 j (by omega) jn
theorem sd_S_new {a b : Int} {p k q : Nat} (hw : ∀ j, j < c → 0 < w j) (hE : ∀ j, j < c → ¬ sh_sm x y w j p → 0 < sh_h x y w a b p j) (hk : k < c) (hn : ¬ sh_sm x y w k p) (hG : ¬ sh_G x y w a b p q k) (hq : q ≠ p)
    (h : sd_S x y w c a b p k q) : sd_S x y w c a b p (k + 1) k := by
  rcases h with ⟨e, h⟩ | ⟨h1, h2, h3⟩
  · exact absurd e hq
  · refine .inr ⟨hk, hn, fun j hj jn => ?_⟩
    by_cases z : j = k
    · subst z; exact sd_Gkk _ _ _ _
    · refine sh_Gtrans (q := q) (hw q h1) (hw k hk) (hw j (by omega)) (hE q h1 h2) (hE k hk hn) (hE j (by omega) jn) ?_ (h3 j (by omega) jn)
      unfold sh_G at hG
      omega
/-- there is a next one, or all are the same -/
theorem sd_next {p : Nat} (hw : ∀ j, j < c → 0 < w j) (hE : sh_E x y w c p) : (∀ j, j < c → sh_sm x y w j p) ∨ ∃ q, sh_N x y w c p q := by
  obtain ⟨a, b, hE⟩ := hE
  have K : ∀ k, k ≤ c → ∃ q, sd_S x y w c a b p k q := by
    intro k
    induction k with
    | zero => intro _; exact ⟨p, .inl ⟨rfl, fun j hj => by omega⟩⟩
    | succ k ih =>
      intro hk
      obtain ⟨q, hq⟩ := ih (by omega)
      by_cases s : sh_sm x y w k p
      · exact ⟨q, sd_S_same s hq⟩
      · by_cases e : q = p
        · exact ⟨k, sd_S_first (by omega) s e hq⟩
        · by_cases g : sh_G x y w a b p q k
          · exact ⟨q, sd_S_keep g e hq⟩
          · exact ⟨k, sd_S_new hw hE (by omega) s g e hq⟩
  obtain ⟨q, hq⟩ := K c (Nat.le_refl _)
  rcases hq with ⟨_, h⟩ | ⟨h1, h2, h3⟩
  · exact .inl h
  · exact .inr ⟨q, h1, h2, a, b, hE, h3⟩
theorem sd_EO {p : Nat} (hw : ∀ j, j < c → 0 < w j) : sh_E x y w c p ↔ ((∀ j, j < c → sh_sm x y w j p) ∨ sh_O x y w c p) := by
  constructor
  · intro h
    rcases sd_next hw h with g | ⟨q, h1, h2, a, b, h3, h4⟩
    · exact .inl g
    · exact .inr (sh_O_G h1 h2 h3 h4)
  · intro h
    rcases h with h | h
    · exact ⟨0, 0, fun j hj jn => absurd (h j hj) jn⟩
    · exact sh_E_O h
/-- the number of outer points -/
noncomputable def sd_n (x y w : Nat → Int) (c : Nat) : Nat := gm_cn (fun k => (∀ j, j < k → ¬ sh_sm x y w j k) ∧ sh_E x y w c k) c
theorem sd_I_cg {P P' : Nat → Nat} {i : Nat} (e : ∀ t, t ≤ i → P t = P' t) (h : sh_I x y w c P i) : sh_I x y w c P' i := by
  obtain ⟨h1, h2, h3, h4⟩ := h
  have e0 := e 0 (by omega)
  have ei := e i (by omega)
  refine ⟨fun t ht => e t ht ▸ h1 t ht, fun t a b => ?_, fun r hr re rn => ?_, fun s t a b => ?_⟩
  · rw [← e t b, ← e0]; exact h2 t a b
  · rw [← e0] at rn
    rw [← e0, ← ei, ← h3 r hr re rn]
    constructor
    · intro hx
      obtain ⟨t, a, b, g⟩ := hx
      exact ⟨t, a, b, by rw [e t b]; exact g⟩
    · intro hx
      obtain ⟨t, a, b, g⟩ := hx
      exact ⟨t, a, b, by rw [← e t b]; exact g⟩
  · rw [← e t b, ← e s (by omega)]; exact h4 s t a b
theorem sd_one (hw : ∀ j, j < c → 0 < w j) {s : Nat} (hs : s < c) (h : ∀ j, j < c → sh_sm x y w j s) : sd_n x y w c = 1 :=
  sh_cnt (P := fun _ => s) (m := 1) hw (fun t _ => ⟨hs, (sd_EO hw).mpr (.inl h)⟩) (fun a b h1 h2 => by omega) (fun r hr _ => ⟨0, by omega, h r hr⟩)
theorem sd_back (hw : ∀ j, j < c → 0 < w j) {P : Nat → Nat} {i q : Nat} (hi : 1 ≤ i) (h : sh_I x y w c P i) (hN : sh_N x y w c (P i) q) (hs : sh_sm x y w q (P 0)) : sd_n x y w c = i + 1 :=
  sh_cnt (P := P) hw (fun t ht => h.1 t (by omega)) (fun a b h1 h2 => h.2.2.2 a b h1 (by omega)) (fun r hr re => by
    obtain ⟨t, ht, g⟩ := sh_end hw hi h hN hs r hr re
    exact ⟨t, by omega, g⟩)
theorem sd_full (hw : ∀ j, j < c → 0 < w j) {P : Nat → Nat} {i : Nat} (hi : i + 1 = c) (h : sh_I x y w c P i) : sd_n x y w c = c := by
  subst hi
  refine sh_cnt (P := P) hw (fun t ht => h.1 t (by omega)) (fun a b h1 h2 => h.2.2.2 a b h1 (by omega)) (fun r hr re => ?_)
  obtain ⟨t, ht, e⟩ := sh_surj (P := P) (fun t ht => (h.1 t (by omega)).1) (fun a b h1 h2 e => h.2.2.2 a b h1 (by omega) (e ▸ sh_sm_refl _)) hr
  exact ⟨t, ht, e ▸ sh_sm_refl _⟩
end
end
section
/-! the component's walk around the shadow -/
section
variable {fc ff : Int32} {pl co tt st : Nat → Int32} {f : Nat → gm_V} {c u v : Nat}
def sd_x (f : Nat → gm_V) (u : Nat) : Nat → Int := fun k => gm_c (f k) u
def sd_w (f : Nat → gm_V) : Nat → Int := fun k => (f k).2.2.2
theorem sd_o_bd (hu : u < 3) {k l : Nat} (bk : gm_bd (f k)) (bl : gm_bd (f l)) : -4423680 ≤ sd_x f u k * sd_w f l - sd_x f u l * sd_w f k ∧ sd_x f u k * sd_w f l - sd_x f u l * sd_w f k ≤ 4423680 := gm_o_bd bk bl hu
theorem xw_oa {post : Int32 → Prop} (hC : xw_C co c f) (hc : c ≤ 33) (hu : u < 3) (hv : v < 3) {k l : Nat} (hk : k < c) (hl : l < c) (bk : gm_bd (f k)) (bl : gm_bd (f l))
    (h : ∀ d : Int, -4423680 ≤ d → d ≤ 4423680 → (d < 0 ↔ sd_lt (sd_x f u) (sd_x f v) (sd_w f) k l) → (0 < d ↔ sd_lt (sd_x f u) (sd_x f v) (sd_w f) l k) → (d = 0 ↔ sh_sm (sd_x f u) (sd_x f v) (sd_w f) k l) → post (nu_I d)) :
    wpX_orderAcross post (fc, ff, pl, co, tt, st) (nI k) (nI l) (nI u) (nI v) := by
  have o0 := sd_o_bd (f := f) hu bk bl
  have o1 := sd_o_bd (f := f) hv bk bl
  unfold wpX_orderAcross
  refine xw_along hC hc hk hl hu ?_
  refine br_c (fun e => ?_) (fun e => ?_)
  · have z := (nu_eq0 (a := sd_x f u k * sd_w f l - sd_x f u l * sd_w f k) (by omega) (by omega)).mp e
    refine xw_along hC hc hk hl hv (h (sd_x f v k * sd_w f l - sd_x f v l * sd_w f k) (by omega) (by omega) ?_ ?_ ?_)
    · unfold sd_lt; omega
    · unfold sd_lt; omega
    · unfold sh_sm; omega
  · have z := (not_congr (nu_eq0 (a := sd_x f u k * sd_w f l - sd_x f u l * sd_w f k) (by omega) (by omega))).mp e
    refine h (sd_x f u k * sd_w f l - sd_x f u l * sd_w f k) (by omega) (by omega) ?_ ?_ ?_
    · unfold sd_lt; omega
    · unfold sd_lt; omega
    · unfold sh_sm; omega
theorem sd_D_bd (hu : u < 3) (hv : v < 3) {k l m : Nat} (bk : gm_bd (f k)) (bl : gm_bd (f l)) (bm : gm_bd (f m)) :
    (-66355200 ≤ sd_x f u l * sd_x f v m - sd_x f u m * sd_x f v l ∧ sd_x f u l * sd_x f v m - sd_x f u m * sd_x f v l ≤ 66355200) ∧
    (-100000000000 ≤ sh_D (sd_x f u) (sd_x f v) (sd_w f) k l m ∧ sh_D (sd_x f u) (sd_x f v) (sd_w f) k l m ≤ 100000000000) := by
  have ul := gm_c_bd bl hu
  have um := gm_c_bd bm hu
  have uk := gm_c_bd bk hu
  have vl := gm_c_bd bl hv
  have vm := gm_c_bd bm hv
  have vk := gm_c_bd bk hv
  have p1 := nu_pb (A := 5760) (B := 5760) ul.1 ul.2 vm.1 vm.2
  have p2 := nu_pb (A := 5760) (B := 5760) um.1 um.2 vl.1 vl.2
  have q1 := sd_o_bd (f := f) hv bl bm
  have q2 := sd_o_bd (f := f) hu bl bm
  have r1 := nu_pb (A := 5760) (B := 4423680) uk.1 uk.2 q1.1 q1.2
  have r2 := nu_pb (A := 5760) (B := 4423680) vk.1 vk.2 q2.1 q2.2
  have e3 : -66355200 ≤ gm_c (f l) u * gm_c (f m) v - gm_c (f m) u * gm_c (f l) v ∧ gm_c (f l) u * gm_c (f m) v - gm_c (f m) u * gm_c (f l) v ≤ 66355200 := by omega
  have r3 := nu_pb (A := 384) (B := 66355200) bk.2.2.2.1 bk.2.2.2.2 e3.1 e3.2
  refine ⟨e3, ?_⟩
  simp only [sh_D, sd_x, sd_w] at *
  omega
theorem xw_turn {post : Int64 → Prop} (hC : xw_C co c f) (hc : c ≤ 33) (hu : u < 3) (hv : v < 3) {k l m : Nat} (hk : k < c) (hl : l < c) (hm : m < c) (bk : gm_bd (f k)) (bl : gm_bd (f l)) (bm : gm_bd (f m))
    (h : post (nu_L (sh_D (sd_x f u) (sd_x f v) (sd_w f) k l m))) : wpX_turn post (fc, ff, pl, co, tt, st) (nI k) (nI l) (nI m) (nI u) (nI v) := by
  have V : ∀ x : Nat, x < 132 → vp_in (nI x) 132 := fun x hx => vp_in_nI hx (by omega)
  have q1 := sd_o_bd (f := f) hv bl bm
  have q2 := sd_o_bd (f := f) hu bl bm
  have q3 := (sd_D_bd (f := f) hu hv bk bl bm).1
  have k1 := gm_c_bd bk hu
  have k2 := gm_c_bd bk hv
  have k3 := bk.2.2.2
  simp only [sd_x, sd_w] at q1 q2 q3
  refine nm_r (xw_4 k) (nm_r (xw_4 l) (nm_r (xw_4 m) ?_))
  simp only [nI_add, xw_a3]
  rw [nI_clamp (n := 4 * l + v) (by omega), nI_clamp (n := 4 * m + 3) (by omega), nI_clamp (n := 4 * m + v) (by omega), nI_clamp (n := 4 * l + 3) (by omega), nI_clamp (n := 4 * l + u) (by omega),
    nI_clamp (n := 4 * m + u) (by omega), nI_clamp (n := 4 * k + u) (by omega), nI_clamp (n := 4 * k + v) (by omega), nI_clamp (n := 4 * k + 3) (by omega),
    (hC l hl).2.2.2, (hC m hm).2.2.2, (hC k hk).2.2.2, xw_Ca hC hl (show v < 4 by omega), xw_Ca hC hm (show v < 4 by omega), xw_Ca hC hl (show u < 4 by omega), xw_Ca hC hm (show u < 4 by omega),
    xw_Ca hC hk (show u < 4 by omega), xw_Ca hC hk (show v < 4 by omega)]
  simp only [nu_mul, nu_sub]
  rw [nu_64 (by omega) (by omega), nu_64 (by omega) (by omega), nu_64 (by omega) (by omega), nu_64 (by omega) (by omega), nu_64 (by omega) (by omega), nu_64 (by omega) (by omega)]
  refine ⟨V _ (by omega), V _ (by omega), V _ (by omega), V _ (by omega), nm_e ⟨V _ (by omega), V _ (by omega), V _ (by omega), V _ (by omega), nm_e ⟨V _ (by omega), V _ (by omega), V _ (by omega), V _ (by omega),
    nm_e ⟨V _ (by omega), V _ (by omega), V _ (by omega), ?_⟩⟩⟩⟩
  simp only [nu_Lmul, nu_Lsub, nu_Ladd]
  exact h
theorem xw_fo {post : Int32 → Prop} {a b : Int} (hC : xw_C co c f) (hc : c ≤ 33) (hu : u < 3) (hv : v < 3) {p q k : Nat} (hp : p < c) (hq : q < c) (hk : k < c) (hb : ∀ j, j < c → gm_bd (f j)) (hw : ∀ j, j < c → 0 < sd_w f j)
    (hn : ¬ sh_sm (sd_x f u) (sd_x f v) (sd_w f) q p) (hhq : 0 < sh_h (sd_x f u) (sd_x f v) (sd_w f) a b p q)
    (h1 : ¬ sh_G (sd_x f u) (sd_x f v) (sd_w f) a b p q k → post 1) (h0 : sh_G (sd_x f u) (sd_x f v) (sd_w f) a b p q k → post 0) : wpX_isFartherOut post (fc, ff, pl, co, tt, st) (nI p) (nI q) (nI k) (nI u) (nI v) := by
  have B := (sd_D_bd (f := f) hu hv (hb p hp) (hb q hq) (hb k hk)).2
  have wp := hw p hp
  have eC := sh_CD (x := sd_x f u) (y := sd_x f v) (w := sd_w f) p q k
  unfold wpX_isFartherOut
  refine xw_turn hC hc hu hv hp hq hk (hb p hp) (hb q hq) (hb k hk) (br_c (fun e => ?_) (fun e => ?_))
  · have z := (nu_Leq0 (by omega) (by omega)).mp e
    rw [z, Int.mul_zero] at eC
    have F := sd_far wp hhq eC
    have G : sh_G (sd_x f u) (sd_x f v) (sd_w f) a b p q k ↔ ¬ sh_h (sd_x f u) (sd_x f v) (sd_w f) a b p q * sd_w f k < sh_h (sd_x f u) (sd_x f v) (sd_w f) a b p k * sd_w f q := by
      unfold sh_G
      omega
    refine xw_oa hC hc hu hv hp hq (hb p hp) (hb q hq) (fun d1 x1 x2 x3 x4 x5 => ?_)
    refine xw_oa hC hc hu hv hq hk (hb q hq) (hb k hk) (fun d2 y1 y2 y3 y4 y5 => ?_)
    have nz : d1 ≠ 0 := fun g => hn (sh_sm_symm (x5.mp g))
    refine br_c (fun g => ?_) (fun g => ?_)
    · have g' := (nu_ge0 (by omega) (by omega)).mp g
      have F2 := F.2 (x4.mp (by omega))
      refine br_c (fun t => h0 ?_) (fun t => h1 ?_)
      · have t' := (nu_le0 (by omega) (by omega)).mp t
        rw [G, ← F2, ← y4]; omega
      · have t' := (not_congr (nu_le0 (by omega) (by omega))).mp t
        rw [G, ← F2, ← y4]; omega
    · have g' := (not_congr (nu_ge0 (by omega) (by omega))).mp g
      have F1 := F.1 (x3.mp (by omega))
      refine br_c (fun t => h0 ?_) (fun t => h1 ?_)
      · have t' := (nu_ge0 (by omega) (by omega)).mp t
        rw [G, ← F1, ← y3]; omega
      · have t' := (not_congr (nu_ge0 (by omega) (by omega))).mp t
        rw [G, ← F1, ← y3]; omega
  · have z := (not_congr (nu_Leq0 (by omega) (by omega))).mp e
    refine br_c (fun g => h0 ?_) (fun g => h1 ?_)
    · have g' := (nu_Lge0 (by omega) (by omega)).mp g
      have := gm_pp wp (show 0 < sh_D (sd_x f u) (sd_x f v) (sd_w f) p q k by omega)
      exact .inl (by omega)
    · have g' := (not_congr (nu_Lge0 (by omega) (by omega))).mp g
      have := gm_pn wp (show sh_D (sd_x f u) (sd_x f v) (sd_w f) p q k < 0 by omega)
      unfold sh_G
      omega
theorem xw_na6 {post : Int32 → Prop} {a b : Int} (hC : xw_C co c f) (hc : c ≤ 32) (hu : u < 3) (hv : v < 3) {p : Nat} (hp : p < c) (hb : ∀ j, j < c → gm_bd (f j)) (hw : ∀ j, j < c → 0 < sd_w f j)
    (hE : ∀ j, j < c → ¬ sh_sm (sd_x f u) (sd_x f v) (sd_w f) j p → 0 < sh_h (sd_x f u) (sd_x f v) (sd_w f) a b p j)
    (h0 : (∀ j, j < c → sh_sm (sd_x f u) (sd_x f v) (sd_w f) j p) → post (nI p)) (h1 : ∀ q, sh_N (sd_x f u) (sd_x f v) (sd_w f) c p q → post (nI q)) :
    ∀ d k q : Nat, k + d = c → q < c → sd_S (sd_x f u) (sd_x f v) (sd_w f) c a b p k q → wX_nextAround_6 post (nI p) (nI u) (nI v) fc (nI c) pl co tt st (d + 1) (nI q) (nI k) := by
  intro d
  induction d with
  | zero =>
    intro k q hk hq hS
    have : k = c := by omega
    subst this
    refine br_t (nI_le (Nat.le_refl _) (by omega)) ?_
    rcases hS with ⟨e, g⟩ | ⟨g1, g2, g3⟩
    · rw [e]; exact h0 g
    · exact h1 q ⟨g1, g2, a, b, hE, g3⟩
  | succ d ih =>
    intro k q hk hq hS
    refine br_f (nI_ge (by omega) (by omega)) (xw_oa hC (by omega) hu hv (by omega) hp (hb k (by omega)) (hb p hp) (fun d1 x1 x2 x3 x4 x5 => br_c (fun e => ?_) (fun e => ?_)))
    · have s := x5.mp ((nu_eq0 (by omega) (by omega)).mp e)
      exact nm_r (nI_1 k) (ih (k + 1) q (by omega) hq (sd_S_same s hS))
    · have s : ¬ sh_sm (sd_x f u) (sd_x f v) (sd_w f) k p := fun z => e ((nu_eq0 (by omega) (by omega)).mpr (x5.mpr z))
      by_cases e2 : q = p
      · exact br_t (by rw [e2]) (nm_r (nI_1 k) (ih (k + 1) k (by omega) (by omega) (sd_S_first (by omega) s e2 hS)))
      · refine br_f (fun z => e2 ((nI_eq (by omega) (by omega)).mp z)) ?_
        have nq : ¬ sh_sm (sd_x f u) (sd_x f v) (sd_w f) q p := by
          rcases hS with ⟨z, _⟩ | ⟨_, g, _⟩
          · exact absurd z e2
          · exact g
        refine xw_fo hC (by omega) hu hv hp hq (by omega) hb hw nq (hE q hq nq) (fun g => ?_) (fun g => ?_)
        · exact br_f (by decide) (nm_r (nI_1 k) (ih (k + 1) k (by omega) (by omega) (sd_S_new hw hE (by omega) s g e2 hS)))
        · exact br_t rfl (nm_r (nI_1 k) (ih (k + 1) q (by omega) hq (sd_S_keep g e2 hS)))
theorem xw_na {post : Int32 → Prop} (hC : xw_C co c f) (hc : c ≤ 32) (hu : u < 3) (hv : v < 3) {p : Nat} (hp : p < c) (hb : ∀ j, j < c → gm_bd (f j)) (hw : ∀ j, j < c → 0 < sd_w f j)
    (hE : sh_E (sd_x f u) (sd_x f v) (sd_w f) c p)
    (h0 : (∀ j, j < c → sh_sm (sd_x f u) (sd_x f v) (sd_w f) j p) → post (nI p)) (h1 : ∀ q, sh_N (sd_x f u) (sd_x f v) (sd_w f) c p q → post (nI q)) : wpX_nextAround post (fc, nI c, pl, co, tt, st) (nI p) (nI u) (nI v) := by
  obtain ⟨a, b, hE⟩ := hE
  exact ⟨c + 1, xw_na6 hC hc hu hv hp hb hw hE h0 h1 c 0 p (by omega) hp (.inl ⟨rfl, fun j hj => by omega⟩)⟩
theorem xw_rs41 {post : Int32 → Prop} (hC : xw_C co c f) (hc : c ≤ 32) (hu : u < 3) (hv : v < 3) {s : Nat} (hs : s < c) (hb : ∀ j, j < c → gm_bd (f j)) (hw : ∀ j, j < c → 0 < sd_w f j) (hE : sh_E (sd_x f u) (sd_x f v) (sd_w f) c s)
    (h : post (nI (sd_n (sd_x f u) (sd_x f v) (sd_w f) c))) :
    ∀ (d t p : Nat) (P : Nat → Nat), t + d = c → 1 ≤ t → P 0 = s → P (t - 1) = p → (t = 1 ∨ (2 ≤ t ∧ sh_I (sd_x f u) (sd_x f v) (sd_w f) c P (t - 1))) →
      wX_roundOfShadow_41 post (nI u) (nI v) (nI s) fc (nI c) pl co tt st (d + 1) (nI p) (nI t) := by
  intro d
  induction d with
  | zero =>
    intro t p P ht h1 h0 hp hI
    have : t = c := by omega
    subst this
    refine br_t (nI_le (Nat.le_refl _) (by omega)) ?_
    have : sd_n (sd_x f u) (sd_x f v) (sd_w f) t = t := by
      rcases hI with e | ⟨e, hI⟩
      · subst e
        refine sd_one hw hs (fun j hj => ?_)
        have : j = s := by omega
        subst this; exact sh_sm_refl _
      · exact sd_full hw (by omega) hI
    rw [this] at h
    exact h
  | succ d ih =>
    intro t p P ht h1 h0 hp hI
    have pc : p < c ∧ sh_E (sd_x f u) (sd_x f v) (sd_w f) c p := by
      rcases hI with e | ⟨e, hI⟩
      · subst e
        have : p = s := by rw [← hp, ← h0]
        subst this; exact ⟨hs, hE⟩
      · rw [← hp]; exact hI.1 _ (Nat.le_refl _)
    refine br_f (nI_ge (by omega) (by omega)) (xw_na hC hc hu hv pc.1 hb hw pc.2 (fun g => ?_) (fun q g => ?_))
    · have et : t = 1 ∧ p = s := by
        rcases hI with e | ⟨e, hI⟩
        · subst e; exact ⟨rfl, by rw [← hp, ← h0]⟩
        · exfalso
          have := hI.2.1 (t - 1) (by omega) (Nat.le_refl _)
          rw [h0, hp] at this
          exact this (sh_sm_symm (g s hs))
      obtain ⟨e1, e2⟩ := et
      subst e1 e2
      refine xw_oa hC (by omega) hu hv hs hs (hb _ hs) (hb _ hs) (fun d1 x1 x2 x3 x4 x5 => br_t ((nu_eq0 (by omega) (by omega)).mpr (x5.mpr (sh_sm_refl _))) ?_)
      rw [sd_one hw hs g] at h
      exact h
    · refine xw_oa hC (by omega) hu hv g.1 hs (hb _ g.1) (hb _ hs) (fun d1 x1 x2 x3 x4 x5 => br_c (fun e => ?_) (fun e => ?_))
      · have sm := x5.mp ((nu_eq0 (by omega) (by omega)).mp e)
        rcases hI with e' | ⟨e', hI⟩
        · exfalso
          subst e'
          have : p = s := by rw [← hp, ← h0]
          subst this; exact g.2.1 sm
        · rw [← hp] at g
          rw [← h0] at sm
          have := sd_back hw (by omega) hI g sm
          rw [show t - 1 + 1 = t by omega] at this
          rw [this] at h
          exact h
      · have sm : ¬ sh_sm (sd_x f u) (sd_x f v) (sd_w f) q s := fun z => e ((nu_eq0 (by omega) (by omega)).mpr (x5.mpr z))
        refine nm_r (nI_1 t) (ih (t + 1) q (fun i => if i = t then q else P i) (by omega) (by omega) (by rw [if_neg (by omega)]; exact h0) (by rw [if_pos (by omega)]) (.inr ⟨by omega, ?_⟩))
        rw [show t + 1 - 1 = t by omega]
        rcases hI with e' | ⟨e', hI⟩
        · subst e'
          have ps : p = s := by rw [← hp, ← h0]
          subst ps
          refine sh_I1 hw ?_ ?_ ?_
          · rw [if_neg (by omega), h0]; exact hs
          · rw [if_neg (by omega), h0]; exact hE
          · rw [if_neg (by omega), if_pos rfl, h0]; exact g
        · have I2 : sh_I (sd_x f u) (sd_x f v) (sd_w f) c (fun i => if i = t then q else P i) (t - 1) := sd_I_cg (fun i hi => (if_neg (by omega)).symm) hI
          have := sh_Is (i := t - 1) hw (by omega) I2
          rw [show t - 1 + 1 = t by omega] at this
          refine this ?_ ?_
          · rw [if_neg (by omega), if_pos rfl, hp]; exact g
          · rw [if_pos rfl, if_neg (by omega), h0]; exact sm
theorem xw_rs5 {post : Int32 → Prop} (hC : xw_C co c f) (hc : c ≤ 32) (hu : u < 3) (hv : v < 3) (hb : ∀ j, j < c → gm_bd (f j)) (hw : ∀ j, j < c → 0 < sd_w f j)
    (h : post (nI (sd_n (sd_x f u) (sd_x f v) (sd_w f) c))) :
    ∀ d k s : Nat, k + d = c → 1 ≤ k → s < c → (∀ j, j < k → ¬ sd_lt (sd_x f u) (sd_x f v) (sd_w f) j s) → wX_roundOfShadow_5 post (nI u) (nI v) fc (nI c) pl co tt st (d + 1) (nI s) (nI k) := by
  intro d
  induction d with
  | zero =>
    intro k s hk h1 hs hI
    have : k = c := by omega
    subst this
    have hE : sh_E (sd_x f u) (sd_x f v) (sd_w f) k s := by
      refine sh_E_lex (fun j hj jn => ?_)
      have a := hI j hj
      unfold sd_lt at a
      unfold sh_sm at jn
      unfold sh_u
      omega
    exact br_t (nI_le (Nat.le_refl _) (by omega)) ⟨k - 1 + 1, xw_rs41 hC hc hu hv hs hb hw hE h (k - 1) 1 s (fun _ => s) (by omega) (by omega) rfl rfl (.inl rfl)⟩
  | succ d ih =>
    intro k s hk h1 hs hI
    refine br_f (nI_ge (by omega) (by omega)) (xw_oa hC (by omega) hu hv (by omega) hs (hb _ (by omega)) (hb _ hs) (fun d1 x1 x2 x3 x4 x5 => br_c (fun e => ?_) (fun e => ?_)))
    · have e' := (nu_ge0 (by omega) (by omega)).mp e
      refine nm_r (nI_1 k) (ih (k + 1) s (by omega) (by omega) hs (fun j hj => ?_))
      by_cases z : j = k
      · subst z; intro g; have := x3.mpr g; omega
      · exact hI j (by omega)
    · have e' := (not_congr (nu_ge0 (by omega) (by omega))).mp e
      have kl := x3.mp (by omega)
      refine nm_r (nI_1 k) (ih (k + 1) k (by omega) (by omega) (by omega) (fun j hj g => ?_))
      by_cases z : j = k
      · subst z
        unfold sd_lt at g
        omega
      · exact hI j (by omega) (sd_trans (hw j (by omega)) (hw k (by omega)) (hw s hs) g kl)
theorem xw_rs {post : Int32 → Prop} (hC : xw_C co c f) (hc : c ≤ 32) (h0 : c ≠ 0) (hu : u < 3) (hv : v < 3) (hb : ∀ j, j < c → gm_bd (f j)) (hw : ∀ j, j < c → 0 < sd_w f j)
    (h : post (nI (sd_n (sd_x f u) (sd_x f v) (sd_w f) c))) : wpX_roundOfShadow post (fc, nI c, pl, co, tt, st) (nI u) (nI v) := by
  refine ⟨c - 1 + 1, xw_rs5 hC hc hu hv hb hw h (c - 1) 1 0 (by omega) (by omega) (by omega) (fun j hj g => ?_)⟩
  have : j = 0 := by omega
  subst this
  unfold sd_lt at g
  omega
end
end
section
/-! the reference's outer points, and shadow -/
section
variable {fn fp fk : Int32} {nr nb gu gv gw gd gx gy gz gb gt gf : Nat → Int32} {f : Nat → gm_V} {c a : Nat}
/-- the two coordinates that are left -/
def sd_u (a : Nat) : Nat := if a = 0 then 1 else 0
def sd_v (a : Nat) : Nat := if a = 2 then 1 else 2
theorem sd_uv (a : Nat) : sd_u a < 3 ∧ sd_v a < 3 := by
  unfold sd_u sd_v
  constructor <;> split <;> omega
theorem yw_flat0 {post : Int32 → Prop} (hC : yw_A gx gy gz gb c f) (hc : c ≤ 32) (ha : a < 3) {k : Nat} (hk : k < c) (h : post (nu_I (sd_x f (sd_u a) k))) : wpY_flat post (fn, fp, fk, nr, nb, gu, gv, gw, gd, gx, gy, gz, gb, gt, gf) (nI k) (nI a) 0 := by
  have v := vp_in_nI (n := k) (N := 40) (by omega) (by omega)
  obtain ⟨k0, k1, k2, k3⟩ := hC k hk
  unfold wpY_flat
  dsimp only
  rw [nI_clamp (by omega), k0, k1]
  unfold sd_u at h
  by_cases e : a = 0
  · subst e
    exact br_t rfl (br_t rfl ⟨v, h⟩)
  · rw [if_neg e] at h
    exact br_t rfl (br_f (nI_ne0 (by omega) (by omega)) ⟨v, h⟩)
theorem yw_flat1 {post : Int32 → Prop} (hC : yw_A gx gy gz gb c f) (hc : c ≤ 32) (ha : a < 3) {k : Nat} (hk : k < c) (h : post (nu_I (sd_x f (sd_v a) k))) : wpY_flat post (fn, fp, fk, nr, nb, gu, gv, gw, gd, gx, gy, gz, gb, gt, gf) (nI k) (nI a) 1 := by
  have v := vp_in_nI (n := k) (N := 40) (by omega) (by omega)
  obtain ⟨k0, k1, k2, k3⟩ := hC k hk
  unfold wpY_flat
  dsimp only
  rw [nI_clamp (by omega), k1, k2]
  unfold sd_v at h
  by_cases e : a = 2
  · subst e
    exact br_f (by decide) (br_t rfl ⟨v, h⟩)
  · rw [if_neg e] at h
    exact br_f (by decide) (br_f (fun z => e ((nI_eq (b := 2) (by omega) (by omega)).mp z)) ⟨v, h⟩)
theorem yw_ap0 {post : Int64 → Prop} (hC : yw_A gx gy gz gb c f) (hc : c ≤ 32) (ha : a < 3) {j k : Nat} (hj : j < c) (hk : k < c) (hb : ∀ j, j < c → gm_bd (f j))
    (h : post (nu_L (sh_u (sd_x f (sd_u a)) (sd_w f) k j))) : wpY_apart post (fn, fp, fk, nr, nb, gu, gv, gw, gd, gx, gy, gz, gb, gt, gf) (nI j) (nI k) (nI a) 0 := by
  have vj := vp_in_nI (n := j) (N := 40) (by omega) (by omega)
  have vk := vp_in_nI (n := k) (N := 40) (by omega) (by omega)
  have u3 := (sd_uv a).1
  have bj := gm_c_bd (hb j hj) u3
  have bk := gm_c_bd (hb k hk) u3
  have wj := (hb j hj).2.2.2
  have wk := (hb k hk).2.2.2
  unfold wpY_apart
  refine yw_flat0 hC hc ha hj ⟨vk, yw_flat0 hC hc ha hk ⟨vj, ?_⟩⟩
  unfold sd_x
  rw [nI_clamp (by omega), nI_clamp (by omega), (hC j hj).2.2.2, (hC k hk).2.2.2, nu_64 (by omega) (by omega), nu_64 (by omega) (by omega), nu_64 (by omega) (by omega), nu_64 (by omega) (by omega), nu_Lmul, nu_Lmul, nu_Lsub]
  exact h
theorem yw_ap1 {post : Int64 → Prop} (hC : yw_A gx gy gz gb c f) (hc : c ≤ 32) (ha : a < 3) {j k : Nat} (hj : j < c) (hk : k < c) (hb : ∀ j, j < c → gm_bd (f j))
    (h : post (nu_L (sh_u (sd_x f (sd_v a)) (sd_w f) k j))) : wpY_apart post (fn, fp, fk, nr, nb, gu, gv, gw, gd, gx, gy, gz, gb, gt, gf) (nI j) (nI k) (nI a) 1 := by
  have vj := vp_in_nI (n := j) (N := 40) (by omega) (by omega)
  have vk := vp_in_nI (n := k) (N := 40) (by omega) (by omega)
  have u3 := (sd_uv a).2
  have bj := gm_c_bd (hb j hj) u3
  have bk := gm_c_bd (hb k hk) u3
  have wj := (hb j hj).2.2.2
  have wk := (hb k hk).2.2.2
  unfold wpY_apart
  refine yw_flat1 hC hc ha hj ⟨vk, yw_flat1 hC hc ha hk ⟨vj, ?_⟩⟩
  unfold sd_x
  rw [nI_clamp (by omega), nI_clamp (by omega), (hC j hj).2.2.2, (hC k hk).2.2.2, nu_64 (by omega) (by omega), nu_64 (by omega) (by omega), nu_64 (by omega) (by omega), nu_64 (by omega) (by omega), nu_Lmul, nu_Lmul, nu_Lsub]
  exact h
theorem sd_u_bd {u : Nat} (hu : u < 3) {j k : Nat} (bj : gm_bd (f j)) (bk : gm_bd (f k)) : -4423680 ≤ sh_u (sd_x f u) (sd_w f) k j ∧ sh_u (sd_x f u) (sd_w f) k j ≤ 4423680 := sd_o_bd (f := f) hu bj bk
theorem yw_same {post : Int32 → Prop} (hC : yw_A gx gy gz gb c f) (hc : c ≤ 32) (ha : a < 3) {j k : Nat} (hj : j < c) (hk : k < c) (hb : ∀ j, j < c → gm_bd (f j))
    (h1 : sh_sm (sd_x f (sd_u a)) (sd_x f (sd_v a)) (sd_w f) j k → post 1) (h0 : ¬ sh_sm (sd_x f (sd_u a)) (sd_x f (sd_v a)) (sd_w f) j k → post 0) : wpY_isSame post (fn, fp, fk, nr, nb, gu, gv, gw, gd, gx, gy, gz, gb, gt, gf) (nI j) (nI k) (nI a) := by
  have b0 := sd_u_bd (f := f) (sd_uv a).1 (hb j hj) (hb k hk)
  have b1 := sd_u_bd (f := f) (sd_uv a).2 (hb j hj) (hb k hk)
  unfold wpY_isSame
  refine yw_ap0 hC hc ha hj hk hb (br_c (fun e => ?_) (fun e => ?_))
  · have z := (nu_Leq0 (by omega) (by omega)).mp e
    refine yw_ap1 hC hc ha hj hk hb (br_c (fun g => h1 ?_) (fun g => h0 (fun s => g ?_)))
    · exact sh_sm_u.mpr ⟨z, (nu_Leq0 (by omega) (by omega)).mp g⟩
    · exact (nu_Leq0 (by omega) (by omega)).mpr (sh_sm_u.mp s).2
  · exact h0 (fun s => e ((nu_Leq0 (by omega) (by omega)).mpr (sh_sm_u.mp s).1))
/-- q bounds what is seen from k -/
def sd_B (x y w : Nat → Int) (c k q : Nat) : Prop := ∀ j, j < c → ¬ sh_sm x y w j k → 0 < sh_C x y w k q j ∨ (sh_C x y w k q j = 0 ∧ 0 ≤ sh_T x y w k q j)
theorem yw_bo23 {post : Int32 → Prop} (hC : yw_A gx gy gz gb c f) (hc : c ≤ 32) (ha : a < 3) {k q : Nat} (hk : k < c) (hq : q < c) (hb : ∀ j, j < c → gm_bd (f j))
    (h1 : sd_B (sd_x f (sd_u a)) (sd_x f (sd_v a)) (sd_w f) c k q → post 1) (h0 : ¬ sd_B (sd_x f (sd_u a)) (sd_x f (sd_v a)) (sd_w f) c k q → post 0) :
    ∀ d j : Nat, j + d = c → (∀ i, i < j → ¬ sh_sm (sd_x f (sd_u a)) (sd_x f (sd_v a)) (sd_w f) i k → 0 < sh_C (sd_x f (sd_u a)) (sd_x f (sd_v a)) (sd_w f) k q i ∨
        (sh_C (sd_x f (sd_u a)) (sd_x f (sd_v a)) (sd_w f) k q i = 0 ∧ 0 ≤ sh_T (sd_x f (sd_u a)) (sd_x f (sd_v a)) (sd_w f) k q i)) →
      wY_bounds_23 post (nI k) (nI a) (nu_L (sh_u (sd_x f (sd_u a)) (sd_w f) k q)) (nu_L (sh_u (sd_x f (sd_v a)) (sd_w f) k q)) fn fp (nI c) nr nb gu gv gw gd gx gy gz gb gt gf (d + 1) (nI j) := by
  intro d
  induction d with
  | zero =>
    intro j hj hI
    have : j = c := by omega
    subst this
    exact br_t (nI_le (Nat.le_refl _) (by omega)) (h1 hI)
  | succ d ih =>
    intro j hj hI
    have nx : (¬ sh_sm (sd_x f (sd_u a)) (sd_x f (sd_v a)) (sd_w f) j k → 0 < sh_C (sd_x f (sd_u a)) (sd_x f (sd_v a)) (sd_w f) k q j ∨
        (sh_C (sd_x f (sd_u a)) (sd_x f (sd_v a)) (sd_w f) k q j = 0 ∧ 0 ≤ sh_T (sd_x f (sd_u a)) (sd_x f (sd_v a)) (sd_w f) k q j)) →
        ∀ z, z = nI j + 1 → wY_bounds_23 post (nI k) (nI a) (nu_L (sh_u (sd_x f (sd_u a)) (sd_w f) k q)) (nu_L (sh_u (sd_x f (sd_v a)) (sd_w f) k q)) fn fp (nI c) nr nb gu gv gw gd gx gy gz gb gt gf (d + 1) z := by
      intro g
      refine nm_r (nI_1 j) (ih (j + 1) (by omega) (fun i hi => ?_))
      by_cases e : i = j
      · subst e; exact g
      · exact hI i (by omega)
    refine br_f (nI_ge (by omega) (by omega)) (yw_same hC hc ha (by omega) hk hb (fun s => ?_) (fun s => ?_))
    · exact br_f (by decide) (nx (fun z => absurd s z))
    · refine br_t rfl (yw_ap0 hC hc ha (by omega) hk hb (yw_ap1 hC hc ha (by omega) hk hb ?_))
      have q0 := sd_u_bd (f := f) (sd_uv a).1 (hb q hq) (hb k hk)
      have q1 := sd_u_bd (f := f) (sd_uv a).2 (hb q hq) (hb k hk)
      have j0 := sd_u_bd (f := f) (sd_uv a).1 (hb j (by omega)) (hb k hk)
      have j1 := sd_u_bd (f := f) (sd_uv a).2 (hb j (by omega)) (hb k hk)
      have p1 := nu_pb (A := 4423680) (B := 4423680) q0.1 q0.2 j1.1 j1.2
      have p2 := nu_pb (A := 4423680) (B := 4423680) q1.1 q1.2 j0.1 j0.2
      have p3 := nu_pb (A := 4423680) (B := 4423680) q0.1 q0.2 j0.1 j0.2
      have p4 := nu_pb (A := 4423680) (B := 4423680) q1.1 q1.2 j1.1 j1.2
      have eC : sh_C (sd_x f (sd_u a)) (sd_x f (sd_v a)) (sd_w f) k q j = sh_u (sd_x f (sd_u a)) (sd_w f) k q * sh_u (sd_x f (sd_v a)) (sd_w f) k j - sh_u (sd_x f (sd_v a)) (sd_w f) k q * sh_u (sd_x f (sd_u a)) (sd_w f) k j := rfl
      have eT : sh_T (sd_x f (sd_u a)) (sd_x f (sd_v a)) (sd_w f) k q j = sh_u (sd_x f (sd_u a)) (sd_w f) k q * sh_u (sd_x f (sd_u a)) (sd_w f) k j + sh_u (sd_x f (sd_v a)) (sd_w f) k q * sh_u (sd_x f (sd_v a)) (sd_w f) k j := rfl
      rw [nu_Lmul, nu_Lmul, nu_Lmul, nu_Lmul, nu_Lsub, nu_Ladd, ← eC, ← eT]
      refine nm_e (br_c (fun g => ?_) (fun g => br_c (fun e => br_c (fun t => ?_) (fun t => ?_)) (fun e => ?_)))
      · have g' := (nu_Llt0 (by omega) (by omega)).mp g
        exact h0 (fun B => by have := B j (by omega) s; omega)
      · have e' := (nu_Leq0 (by omega) (by omega)).mp e
        have t' := (nu_Lge0 (by omega) (by omega)).mp t
        exact nx (fun _ => .inr ⟨e', t'⟩)
      · have e' := (nu_Leq0 (by omega) (by omega)).mp e
        have t' := (not_congr (nu_Lge0 (by omega) (by omega))).mp t
        exact h0 (fun B => by have := B j (by omega) s; omega)
      · have g' := (not_congr (nu_Llt0 (by omega) (by omega))).mp g
        have e' := (not_congr (nu_Leq0 (by omega) (by omega))).mp e
        exact nx (fun _ => .inl (by omega))
theorem yw_bo {post : Int32 → Prop} (hC : yw_A gx gy gz gb c f) (hc : c ≤ 32) (ha : a < 3) {k q : Nat} (hk : k < c) (hq : q < c) (hb : ∀ j, j < c → gm_bd (f j))
    (h1 : sd_B (sd_x f (sd_u a)) (sd_x f (sd_v a)) (sd_w f) c k q → post 1) (h0 : ¬ sd_B (sd_x f (sd_u a)) (sd_x f (sd_v a)) (sd_w f) c k q → post 0) : wpY_bounds post (fn, fp, nI c, nr, nb, gu, gv, gw, gd, gx, gy, gz, gb, gt, gf) (nI k) (nI q) (nI a) := by
  unfold wpY_bounds
  exact yw_ap0 hC hc ha hq hk hb (yw_ap1 hC hc ha hq hk hb ⟨c + 1, yw_bo23 hC hc ha hk hq hb h1 h0 c 0 (by omega) (fun i hi => by omega)⟩)
theorem yw_ou5 {post : Int32 → Prop} (hC : yw_A gx gy gz gb c f) (hc : c ≤ 32) (ha : a < 3) {k : Nat} (hk : k < c) (hb : ∀ j, j < c → gm_bd (f j)) (hw : ∀ j, j < c → 0 < sd_w f j)
    (h1 : sh_E (sd_x f (sd_u a)) (sd_x f (sd_v a)) (sd_w f) c k → post 1) (h0 : ¬ sh_E (sd_x f (sd_u a)) (sd_x f (sd_v a)) (sd_w f) c k → post 0) :
    ∀ (d q : Nat) (z : Int32), q + d = c → (∀ i, i < q → ¬ sh_sm (sd_x f (sd_u a)) (sd_x f (sd_v a)) (sd_w f) i k → ¬ sd_B (sd_x f (sd_u a)) (sd_x f (sd_v a)) (sd_w f) c k i) →
      ((z = 1 ∧ ∀ i, i < q → sh_sm (sd_x f (sd_u a)) (sd_x f (sd_v a)) (sd_w f) i k) ∨ (z = 0 ∧ ¬ ∀ i, i < q → sh_sm (sd_x f (sd_u a)) (sd_x f (sd_v a)) (sd_w f) i k)) →
      wY_isOuter_5 post (nI k) (nI a) fn fp (nI c) nr nb gu gv gw gd gx gy gz gb gt gf (d + 1) z (nI q) := by
  intro d
  induction d with
  | zero =>
    intro q z hq hI hz
    have : q = c := by omega
    subst this
    refine br_t (nI_le (Nat.le_refl _) (by omega)) ?_
    rcases hz with ⟨rfl, g⟩ | ⟨rfl, g⟩
    · exact ⟨rfl, h1 ((sd_EO hw).mpr (.inl g))⟩
    · refine ⟨rfl, h0 (fun E => ?_)⟩
      rcases (sd_EO hw).mp E with y | ⟨i, hi, ni, hB⟩
      · exact g y
      · exact hI i hi ni hB
  | succ d ih =>
    intro q z hq hI hz
    refine br_f (nI_ge (by omega) (by omega)) (yw_same hC hc ha (by omega) hk hb (fun s => ?_) (fun s => ?_))
    · refine br_f (by decide) (nm_r (nI_1 q) (ih (q + 1) z (by omega) (fun i hi ni => ?_) ?_))
      · by_cases e : i = q
        · subst e; exact absurd s ni
        · exact hI i (by omega) ni
      · rcases hz with ⟨e1, g⟩ | ⟨e1, g⟩
        · refine .inl ⟨e1, fun i hi => ?_⟩
          by_cases e : i = q
          · subst e; exact s
          · exact g i (by omega)
        · exact .inr ⟨e1, fun y => g (fun i hi => y i (by omega))⟩
    · refine br_t rfl (yw_bo hC hc ha hk (by omega) hb (fun B => ?_) (fun B => ?_))
      · exact br_f (by decide) (h1 ((sd_EO hw).mpr (.inr ⟨q, by omega, s, B⟩)))
      · refine br_t rfl (nm_r (nI_1 q) (ih (q + 1) 0 (by omega) (fun i hi ni => ?_) (.inr ⟨rfl, fun y => s (y q (by omega))⟩)))
        by_cases e : i = q
        · subst e; exact B
        · exact hI i (by omega) ni
theorem yw_ou {post : Int32 → Prop} (hC : yw_A gx gy gz gb c f) (hc : c ≤ 32) (ha : a < 3) {k : Nat} (hk : k < c) (hb : ∀ j, j < c → gm_bd (f j)) (hw : ∀ j, j < c → 0 < sd_w f j)
    (h1 : sh_E (sd_x f (sd_u a)) (sd_x f (sd_v a)) (sd_w f) c k → post 1) (h0 : ¬ sh_E (sd_x f (sd_u a)) (sd_x f (sd_v a)) (sd_w f) c k → post 0) : wpY_isOuter post (fn, fp, nI c, nr, nb, gu, gv, gw, gd, gx, gy, gz, gb, gt, gf) (nI k) (nI a) :=
  ⟨c + 1, yw_ou5 hC hc ha hk hb hw h1 h0 c 0 1 (by omega) (fun i hi => by omega) (.inl ⟨rfl, fun i hi => by omega⟩)⟩
/-- first of its kind and outer -/
def sd_P (x y w : Nat → Int) (c k : Nat) : Prop := (∀ j, j < k → ¬ sh_sm x y w j k) ∧ sh_E x y w c k
theorem yw_sd35 {post : Int32 → SY → Prop} {J : Int32 → Int32 → Prop} {x2 : Int32} (hC : yw_A gx gy gz gb c f) (hc : c ≤ 32) (ha : a < 3) {k : Nat} (hk : k < c) (hb : ∀ j, j < c → gm_bd (f j)) (hw : ∀ j, j < c → 0 < sd_w f j)
    (h1 : sd_P (sd_x f (sd_u a)) (sd_x f (sd_v a)) (sd_w f) c k → J (x2 + 1) (nI (k + 1))) (h0 : ¬ sd_P (sd_x f (sd_u a)) (sd_x f (sd_v a)) (sd_w f) c k → J x2 (nI (k + 1))) :
    ∀ (d j : Nat) (z : Int32), j + d = k → ((z = 1 ∧ ∀ i, i < j → ¬ sh_sm (sd_x f (sd_u a)) (sd_x f (sd_v a)) (sd_w f) i k) ∨ (z = 0 ∧ ¬ ∀ i, i < j → ¬ sh_sm (sd_x f (sd_u a)) (sd_x f (sd_v a)) (sd_w f) i k)) →
      wY_shadow_35 post J (nI a) x2 (nI k) fn fp (nI c) nr nb gu gv gw gd gx gy gz gb gt gf (d + 1) z (nI j) := by
  intro d
  induction d with
  | zero =>
    intro j z hj hz
    have : j = k := by omega
    subst this
    refine br_t (nI_le (Nat.le_refl _) (by omega)) ?_
    rcases hz with ⟨rfl, g⟩ | ⟨rfl, g⟩
    · refine br_f (by decide) (yw_ou hC hc ha hk hb hw (fun E => ?_) (fun E => ?_))
      · exact br_f (by decide) (nm_e (nm_r (nI_1 j) (h1 ⟨g, E⟩)))
      · exact br_t rfl (nm_r (nI_1 j) (h0 (fun z => E z.2)))
    · exact br_t rfl (nm_r (nI_1 j) (h0 (fun z => g z.1)))
  | succ d ih =>
    intro j z hj hz
    refine br_f (nI_ge (by omega) (by omega)) (yw_same hC hc ha (by omega) hk hb (fun s => ?_) (fun s => ?_))
    · exact br_f (by decide) (nm_r (nI_1 j) (ih (j + 1) 0 (by omega) (.inr ⟨rfl, fun y => y j (by omega) s⟩)))
    · refine br_t rfl (nm_r (nI_1 j) (ih (j + 1) z (by omega) ?_))
      rcases hz with ⟨e1, g⟩ | ⟨e1, g⟩
      · refine .inl ⟨e1, fun i hi => ?_⟩
        by_cases e : i = j
        · subst e; exact s
        · exact g i (by omega)
      · exact .inr ⟨e1, fun y => g (fun i hi => y i (by omega))⟩
theorem yw_sd21 {post : Int32 → SY → Prop} (hC : yw_A gx gy gz gb c f) (hc : c ≤ 32) (ha : a < 3) (hb : ∀ j, j < c → gm_bd (f j)) (hw : ∀ j, j < c → 0 < sd_w f j)
    (h : post (nI (sd_n (sd_x f (sd_u a)) (sd_x f (sd_v a)) (sd_w f) c)) (fn, fp, nI c, nr, nb, gu, gv, gw, gd, gx, gy, gz, gb, gt, gf)) :
    ∀ d k : Nat, k + d = c → wY_shadow_21 post (nI a) fn fp (nI c) nr nb gu gv gw gd gx gy gz gb gt gf (d + 1) (nI (gm_cn (sd_P (sd_x f (sd_u a)) (sd_x f (sd_v a)) (sd_w f) c) k)) (nI k) := by
  intro d
  induction d with
  | zero =>
    intro k hk
    have : k = c := by omega
    subst this
    exact br_t (nI_le (Nat.le_refl _) (by omega)) h
  | succ d ih =>
    intro k hk
    have nx := ih (k + 1) (by omega)
    refine br_f (nI_ge (by omega) (by omega)) ⟨k + 1, yw_sd35 hC hc ha (by omega) hb hw (fun p => ?_) (fun p => ?_) k 0 1 (by omega) (.inl ⟨rfl, fun i hi => by omega⟩)⟩
    · rw [gm_cn_t p] at nx
      rw [nI_1]; exact nx
    · rw [gm_cn_f p] at nx
      exact nx
theorem i_vc_shadow {k : Nat} {u : SX} {v : SY} (I : i_Rel k u v) (hk : k + 3 ≤ 1536) (v1 : Int32) : wpX_shadow (fun r u' => wpY_shadow (fun r' v' => r' = r ∧ i_Rel (k + 3) u' v') v v1) u v1 := by
  obtain ⟨fc, ff, pl, co, tt, st⟩ := u
  obtain ⟨fn, fp, fk, nr, nb, gu, gv, gw, gd, gx, gy, gz, gb, gt, gf⟩ := v
  have I' := I
  obtain ⟨n, M, D, e1, e2, hR⟩ := I
  dsimp only at e1 e2 hR
  subst e1 e2
  have hn8 := hR.1.1
  unfold wpX_shadow
  refine xw_isA (fun a ha ea => ?_) (fun hx => ?_)
  · subst ea
    refine br_f (by decide) (xw_body hR (fun c f co tt hc hL hC hT => ?_))
    have hbd : ∀ k, k < c → gm_bd (f k) := fun k hk => gm_vt_bd (fun i hi => (rl_Q_ok hR.1 i hi).1) (hL.1 k hk)
    have hw : ∀ k, k < c → 0 < sd_w f k := fun k hk => (hL.1 k hk).1.1
    have Y : ∀ r : Int32, r = nI (sd_n (sd_x f (sd_u a)) (sd_x f (sd_v a)) (sd_w f) c) → wpY_shadow (fun r' v' => r' = r ∧ i_Rel (k + 3) (nI n, nI c, pl, co, tt, st) v') (nI n, fp, fk, nr, nb, gu, gv, gw, gd, gx, gy, gz, gb, gt, gf) (nI a) := by
      intro r er
      unfold wpY_shadow
      refine yw_ix (c := 3) (by omega) (by decide) (fun _ _ _ => br_f (by decide) ?_) (fun hx => absurd ⟨a, ha, rfl⟩ hx)
      refine yw_find2 hR hL (fun gu gv gw gd gx gy gz gb gt g1 g2 g3 => ?_)
      exact ⟨c + 1, yw_sd21 g2 hc ha hbd hw ⟨er.symm, n, M, D, rfl, rfl, hR⟩ c 0 (by omega)⟩
    by_cases e : c = 0
    · refine br_t (by rw [e]; rfl) (Y 0 ?_)
      subst e
      rfl
    · refine br_f (nI_ne0 (by omega) (by omega)) ?_
      have H := xw_rs (post := fun r => wpY_shadow (fun r' v' => r' = r ∧ i_Rel (k + 3) (nI n, nI c, pl, co, tt, st) v') (nI n, fp, fk, nr, nb, gu, gv, gw, gd, gx, gy, gz, gb, gt, gf) (nI a)) (fc := nI n) (pl := pl) (tt := tt) (st := st) hC hc e (sd_uv a).1 (sd_uv a).2 hbd hw (Y _ rfl)
      have : a = 0 ∨ a = 1 ∨ a = 2 := by omega
      rcases this with z | z | z
      · subst z
        exact br_t rfl (br_f (by decide) H)
      · subst z
        exact br_f (by decide) (br_f (by decide) H)
      · subst z
        exact br_f (by decide) (br_t rfl H)
  · refine br_t rfl ?_
    unfold wpY_shadow
    exact yw_ix (c := 3) (by omega) (by decide) (fun j hj ej => absurd ⟨j, hj, ej⟩ hx) (fun _ => br_t rfl ⟨rfl, I'⟩)
end
end
