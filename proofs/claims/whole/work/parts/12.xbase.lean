/-! The component's small methods: indices, divisor, excess, meeting point, order -/
section
theorem nu_0 : (0 : Int32) = nu_I 0 := by decide
theorem nu_ge0 {a : Int} (h1 : -2147483648 ≤ a) (h2 : a ≤ 2147483647) : (0 : Int32) ≤ nu_I a ↔ 0 ≤ a := by
  rw [nu_0]; exact nu_le (by omega) (by omega) h1 h2
theorem nu_le0 {a : Int} (h1 : -2147483648 ≤ a) (h2 : a ≤ 2147483647) : nu_I a ≤ (0 : Int32) ↔ a ≤ 0 := by
  rw [nu_0]; exact nu_le h1 h2 (by omega) (by omega)
theorem nu_eq0 {a : Int} (h1 : -2147483648 ≤ a) (h2 : a ≤ 2147483647) : nu_I a = (0 : Int32) ↔ a = 0 := by
  rw [nu_0]; exact nu_eq h1 h2 (by omega) (by omega)
theorem nu_L0 : (0 : Int64) = nu_L 0 := by decide
theorem nu_Lge0 {a : Int} (h1 : -9223372036854775808 ≤ a) (h2 : a ≤ 9223372036854775807) : (0 : Int64) ≤ nu_L a ↔ 0 ≤ a := by
  rw [nu_L0]; exact nu_Lle (by omega) (by omega) h1 h2
theorem nu_Lle0 {a : Int} (h1 : -9223372036854775808 ≤ a) (h2 : a ≤ 9223372036854775807) : nu_L a ≤ (0 : Int64) ↔ a ≤ 0 := by
  rw [nu_L0]; exact nu_Lle h1 h2 (by omega) (by omega)
theorem nu_Leq0 {a : Int} (h1 : -9223372036854775808 ≤ a) (h2 : a ≤ 9223372036854775807) : nu_L a = (0 : Int64) ↔ a = 0 := by
  rw [nu_L0]; exact nu_Leq h1 h2 (by omega) (by omega)
theorem nu_Llt0 {a : Int} (h1 : -9223372036854775808 ≤ a) (h2 : a ≤ 9223372036854775807) : nu_L a < (0 : Int64) ↔ a < 0 := by
  rw [nu_L0]; exact nu_Llt h1 h2 (by omega) (by omega)

theorem xw_gcd35 {post : Int32 → Prop} {a : Int} (h1 : a.natAbs < 2 ^ 31) (h : post (nu_I a.natAbs)) : wX_commonDivisor_35 post (nu_I a) := by
  by_cases c : 0 ≤ a
  · have e : ((a.natAbs : Nat) : Int) = a := by omega
    rw [e] at h
    exact br_t ((nu_ge0 (by omega) (by omega)).mpr c) h
  · have e : ((a.natAbs : Nat) : Int) = -a := by omega
    rw [e, ← nu_neg] at h
    exact br_f (fun k => c ((nu_ge0 (by omega) (by omega)).mp k)) h
theorem xw_gcd0 {post : Int32 → Prop} {a : Int} {s n : Nat} (h1 : a.natAbs < 2 ^ 31) (hs : s < 1000) (h : post (nu_I a.natAbs)) :
    wX_commonDivisor_7 post (n + 1) (nu_I a) (nu_I 0) (nI s) :=
  br_f (nI_ge (b := 1000) hs (by decide)) (br_t nu_0.symm (xw_gcd35 h1 h))
theorem xw_gcd1 {post : Int32 → Prop} {a b : Int} {s n : Nat} (h1 : a.natAbs < 2 ^ 31) (h2 : b.natAbs < 2 ^ 31) (hb : b ≠ 0) (hs : s < 1000)
    (h : wX_commonDivisor_7 post n (nu_I b) (nu_I (a.tmod b)) (nI (s + 1))) : wX_commonDivisor_7 post (n + 1) (nu_I a) (nu_I b) (nI s) := by
  have hz : ¬ nu_I b = 0 := fun k => hb ((nu_eq0 (by omega) (by omega)).mp k)
  exact br_f (nI_ge (b := 1000) hs (by decide)) (br_f hz ⟨hz, nm_r (nu_rem (by omega) (by omega) (by omega) (by omega)) (nm_r (nI_1 s) h)⟩)
theorem nu_eu {A B : Nat} (hB : 0 < B) : Nat.gcd B (A % B) = Nat.gcd A B := by
  rw [Nat.gcd_comm A B, Nat.gcd_rec B A, Nat.gcd_comm]
theorem nu_half {B R : Nat} (hR : 0 < R) (h : R < B) : 2 * (B % R) < B := by
  have h1 := Nat.mod_lt B hR
  have h2 := Nat.div_add_mod B R
  have h3 : 1 ≤ B / R := Nat.div_pos (Nat.le_of_lt h) hR
  have h4 : R * 1 ≤ R * (B / R) := Nat.mul_le_mul_left R h3
  omega
theorem xw_gcd7 {post : Int32 → Prop} : ∀ (t : Nat) (a b : Int) (s n : Nat), a.natAbs < 2 ^ 31 → b.natAbs < 2 ^ t → t ≤ 31 → s + 2 * t < 1000 → 2 * t < n →
    post (nu_I (Nat.gcd a.natAbs b.natAbs)) → wX_commonDivisor_7 post n (nu_I a) (nu_I b) (nI s) := by
  intro t
  induction t with
  | zero =>
    intro a b s n h1 h2 _ hs hn h
    obtain ⟨n', rfl⟩ : ∃ n', n = n' + 1 := ⟨n - 1, by omega⟩
    have e : b = 0 := by simp at h2; omega
    subst e
    rw [Int.natAbs_zero, Nat.gcd_zero_right] at h
    exact xw_gcd0 h1 (by omega) h
  | succ t ih =>
    intro a b s n h1 h2 ht hs hn h
    obtain ⟨n', rfl⟩ : ∃ n', n = n' + 1 := ⟨n - 1, by omega⟩
    have hp : 2 ^ (t + 1) ≤ 2 ^ 31 := Nat.pow_le_pow_right (by decide) ht
    by_cases e : b = 0
    · subst e
      rw [Int.natAbs_zero, Nat.gcd_zero_right] at h
      exact xw_gcd0 h1 (by omega) h
    · have hb : 0 < b.natAbs := by omega
      refine xw_gcd1 h1 (by omega) e (by omega) ?_
      have hr : (a.tmod b).natAbs = a.natAbs % b.natAbs := Int.natAbs_tmod a b
      have hl : a.natAbs % b.natAbs < b.natAbs := Nat.mod_lt _ hb
      by_cases e2 : a.tmod b = 0
      · obtain ⟨n'', rfl⟩ : ∃ n'', n' = n'' + 1 := ⟨n' - 1, by omega⟩
        rw [e2]
        refine xw_gcd0 (by omega) (by omega) ?_
        rw [e2] at hr
        have : Nat.gcd a.natAbs b.natAbs = b.natAbs := by
          rw [← nu_eu hb, ← hr]; simp
        rw [← this]; exact h
      · obtain ⟨n'', rfl⟩ : ∃ n'', n' = n'' + 1 := ⟨n' - 1, by omega⟩
        refine xw_gcd1 (by omega) (by omega) e2 (by omega) ?_
        have hR : 0 < (a.tmod b).natAbs := by omega
        have hr2 : (b.tmod (a.tmod b)).natAbs = b.natAbs % (a.tmod b).natAbs := Int.natAbs_tmod _ _
        have hh := nu_half (B := b.natAbs) hR (by omega)
        refine ih _ _ _ _ (by omega) (by rw [hr2]; rw [Nat.pow_succ] at h2; omega) (by omega) (by omega) (by omega) ?_
        rw [hr2, nu_eu hR, hr, nu_eu hb]
        exact h
theorem xw_gcd {post : Int32 → Prop} {a b : Int} (h1 : a.natAbs < 2 ^ 31) (h2 : b.natAbs < 2 ^ 31) (h : post (nu_I (Nat.gcd a.natAbs b.natAbs))) :
    wpX_commonDivisor post (nu_I a) (nu_I b) :=
  ⟨63, xw_gcd7 31 a b 0 63 h1 h2 (by omega) (by omega) (by omega) h⟩

theorem xw_4 (k : Nat) : (4 : Int32) * nI k = nI (4 * k) := pk_mul 4 k
theorem xw_a1 (k : Nat) : nI k + (1 : Int32) = nI (k + 1) := nI_add k 1
theorem xw_a2 (k : Nat) : nI k + (2 : Int32) = nI (k + 2) := nI_add k 2
theorem xw_a3 (k : Nat) : nI k + (3 : Int32) = nI (k + 3) := nI_add k 3
/-- cells of four: what an array holds, as points -/
def xw_C (a : Nat → Int32) (c : Nat) (f : Nat → gm_V) : Prop :=
  ∀ k, k < c → a (4 * k) = nu_I (f k).1 ∧ a (4 * k + 1) = nu_I (f k).2.1 ∧ a (4 * k + 2) = nu_I (f k).2.2.1 ∧ a (4 * k + 3) = nu_I (f k).2.2.2

variable {fc ff : Int32} {pl co tt st : Nat → Int32} {Q f : Nat → gm_V} {n c : Nat}
theorem xw_excess {post : Int32 → Prop} (hP : xw_C pl n Q) (hC : xw_C co c f) {p k : Nat} (hp : p < n) (hn : n ≤ 16) (hk : k < c) (hc : c ≤ 33)
    (h : post (nu_I (gm_ev (Q p) (f k)))) : wpX_excess post (fc, ff, pl, co, tt, st) (nI p) (nI k) := by
  obtain ⟨p0, p1, p2, p3⟩ := hP p hp
  obtain ⟨k0, k1, k2, k3⟩ := hC k hk
  refine nm_r (xw_4 p) (nm_r (xw_4 k) ?_)
  rw [xw_a1, xw_a1, xw_a2, xw_a2, xw_a3, xw_a3]
  refine ⟨vp_in_nI (by omega) (by omega), vp_in_nI (by omega) (by omega), vp_in_nI (by omega) (by omega), vp_in_nI (by omega) (by omega),
    vp_in_nI (by omega) (by omega), vp_in_nI (by omega) (by omega), vp_in_nI (by omega) (by omega), vp_in_nI (by omega) (by omega), ?_⟩
  rw [nI_clamp (by omega), nI_clamp (by omega), nI_clamp (by omega), nI_clamp (by omega), nI_clamp (by omega), nI_clamp (by omega), nI_clamp (by omega), nI_clamp (by omega),
    p0, p1, p2, p3, k0, k1, k2, k3]
  simp only [nu_mul, nu_add, nu_sub]
  exact h
theorem gm_ev_bd {a p : gm_V} (ha : gm_ok a) (hp : gm_bd p) : -92160 ≤ gm_ev a p ∧ gm_ev a p ≤ 92160 := by
  obtain ⟨a1, a2, a3, a4⟩ := ha
  obtain ⟨p1, p2, p3, p4⟩ := hp
  have q1 := nu_pb (A := 4) (B := 5760) a1.1 a1.2 p1.1 p1.2
  have q2 := nu_pb (A := 4) (B := 5760) a2.1 a2.2 p2.1 p2.2
  have q3 := nu_pb (A := 4) (B := 5760) a3.1 a3.2 p3.1 p3.2
  have q4 := nu_pb (A := 60) (B := 384) a4.1 a4.2 p4.1 p4.2
  simp only [gm_ev]
  omega
theorem xw_det {post : Int32 → Prop} {i j k a b d : Nat} (hi : i < 16) (hj : j < 16) (hk : k < 16) (ha : a < 4) (hb : b < 4) (hd : d < 4)
    (h : post (pl (4 * i + a) * (pl (4 * j + b) * pl (4 * k + d) - pl (4 * j + d) * pl (4 * k + b))
      - pl (4 * i + b) * (pl (4 * j + a) * pl (4 * k + d) - pl (4 * j + d) * pl (4 * k + a))
      + pl (4 * i + d) * (pl (4 * j + a) * pl (4 * k + b) - pl (4 * j + b) * pl (4 * k + a)))) :
    wpX_determinant post (fc, ff, pl, co, tt, st) (nI i) (nI j) (nI k) (nI a) (nI b) (nI d) := by
  refine nm_r (xw_4 i) (nm_r (xw_4 j) (nm_r (xw_4 k) ?_))
  simp only [nI_add]
  have v : ∀ x : Nat, x < 64 → vp_in (nI x) 64 := fun x hx => vp_in_nI hx (by omega)
  refine ⟨v _ (by omega), v _ (by omega), v _ (by omega), v _ (by omega), v _ (by omega), v _ (by omega), v _ (by omega), v _ (by omega),
    v _ (by omega), v _ (by omega), v _ (by omega), v _ (by omega), v _ (by omega), v _ (by omega), v _ (by omega), ?_⟩
  rw [nI_clamp (n := 4 * i + a) (by omega), nI_clamp (n := 4 * i + b) (by omega), nI_clamp (n := 4 * i + d) (by omega),
    nI_clamp (n := 4 * j + a) (by omega), nI_clamp (n := 4 * j + b) (by omega), nI_clamp (n := 4 * j + d) (by omega),
    nI_clamp (n := 4 * k + a) (by omega), nI_clamp (n := 4 * k + b) (by omega), nI_clamp (n := 4 * k + d) (by omega)]
  exact h
end
