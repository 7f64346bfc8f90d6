/-! shadow -/
section
/-- first by the one coordinate, then by the other -/
def sd_lt (x y w : Nat → Int) (k l : Nat) : Prop := x k * w l < x l * w k ∨ (x k * w l = x l * w k ∧ y k * w l < y l * w k)
theorem sd_trans {x y w : Nat → Int} {j k l : Nat} (hj : 0 < w j) (hk : 0 < w k) (hl : 0 < w l) (h1 : sd_lt x y w j k) (h2 : sd_lt x y w k l) : sd_lt x y w j l := by
  rcases h1 with h1 | ⟨e1, h1⟩
  · left
    rcases h2 with h2 | ⟨e2, _⟩
    · exact gm_frac_lt hj hk hl (Int.le_of_lt h1) h2
    · exact gm_frac_lt' hj hk hl h1 (Int.le_of_eq e2)
  · rcases h2 with h2 | ⟨e2, h2⟩
    · left; exact gm_frac_lt hj hk hl (Int.le_of_eq e1) h2
    · right; exact ⟨gm_frac_eq hk e1 e2, gm_frac_lt hj hk hl (Int.le_of_lt h1) h2⟩
theorem sd_sign {K t d e : Int} (hK : 0 < K) (h : K * e = t * d) :
    (0 < t → ((0 < e ↔ 0 < d) ∧ (e < 0 ↔ d < 0))) ∧ (t < 0 → ((0 < e ↔ d < 0) ∧ (e < 0 ↔ 0 < d))) ∧ (t = 0 → e = 0) := by
  have P : (0 < K * e ↔ 0 < e) ∧ (K * e < 0 ↔ e < 0) := by
    rcases Int.lt_trichotomy e 0 with g | g | g
    · have := gm_pn hK g
      omega
    · subst g; simp
    · have := gm_pp hK g
      omega
  refine ⟨fun ht => ?_, fun ht => ?_, fun ht => ?_⟩
  · rcases Int.lt_trichotomy d 0 with g | g | g
    · have := gm_pn ht g
      omega
    · subst g
      rw [Int.mul_zero] at h
      omega
    · have := gm_pp ht g
      omega
  · rcases Int.lt_trichotomy d 0 with g | g | g
    · have := Int.mul_pos_of_neg_of_neg ht g
      omega
    · subst g
      rw [Int.mul_zero] at h
      omega
    · have := Int.mul_neg_of_neg_of_pos ht g
      omega
  · subst ht
    rw [Int.zero_mul] at h
    omega
variable {x y w : Nat → Int} {c : Nat}
/-- on one ray, farther by the measure is farther by the order -/
theorem sd_far {a b : Int} {p q k : Nat} (wp : 0 < w p) (hq : 0 < sh_h x y w a b p q) (h0 : sh_C x y w p q k = 0) :
    (sd_lt x y w p q → (sd_lt x y w q k ↔ sh_h x y w a b p q * w k < sh_h x y w a b p k * w q)) ∧ (sd_lt x y w q p → (sd_lt x y w k q ↔ sh_h x y w a b p q * w k < sh_h x y w a b p k * w q)) := by
  obtain ⟨r1, r2⟩ := sh_ray (a := a) (b := b) h0
  have k1 : (sh_h x y w a b p q * w p) * sh_u x w q k = (sh_h x y w a b p k * w q - sh_h x y w a b p q * w k) * sh_u x w p q := by
    have : w p * sh_u x w q k = w q * sh_u x w p k - w k * sh_u x w p q := by simp only [sh_u]; grind
    grind
  have k2 : (sh_h x y w a b p q * w p) * sh_u y w q k = (sh_h x y w a b p k * w q - sh_h x y w a b p q * w k) * sh_u y w p q := by
    have : w p * sh_u y w q k = w q * sh_u y w p k - w k * sh_u y w p q := by simp only [sh_u]; grind
    grind
  have hK := gm_pp hq wp
  have s1 := sd_sign hK k1
  have s2 := sd_sign hK k2
  have t1 : sd_lt x y w p q ↔ (0 < sh_u x w p q ∨ (sh_u x w p q = 0 ∧ 0 < sh_u y w p q)) := by simp only [sd_lt, sh_u]; omega
  have t2 : sd_lt x y w q k ↔ (0 < sh_u x w q k ∨ (sh_u x w q k = 0 ∧ 0 < sh_u y w q k)) := by simp only [sd_lt, sh_u]; omega
  have t3 : sd_lt x y w q p ↔ (sh_u x w p q < 0 ∨ (sh_u x w p q = 0 ∧ sh_u y w p q < 0)) := by simp only [sd_lt, sh_u]; omega
  have t4 : sd_lt x y w k q ↔ (sh_u x w q k < 0 ∨ (sh_u x w q k = 0 ∧ sh_u y w q k < 0)) := by simp only [sd_lt, sh_u]; omega
  rw [t1, t2, t3, t4]
  generalize sh_u x w p q = dx at *
  generalize sh_u y w p q = dy at *
  generalize sh_u x w q k = ex at *
  generalize sh_u y w q k = ey at *
  rcases Int.lt_trichotomy (sh_h x y w a b p k * w q - sh_h x y w a b p q * w k) 0 with g | g | g
  · have u1 := s1.2.1 g
    have u2 := s2.2.1 g
    omega
  · have u1 := s1.2.2 g
    have u2 := s2.2.2 g
    omega
  · have u1 := s1.1 g
    have u2 := s2.1 g
    omega
theorem sd_Gkk (a b : Int) (p k : Nat) : sh_G x y w a b p k k := .inr ⟨by simp only [sh_C]; grind, Int.le_refl _⟩
/-- what the scan for the next one knows before k -/
def sd_S (x y w : Nat → Int) (c : Nat) (a b : Int) (p k q : Nat) : Prop :=
  (q = p ∧ ∀ j, j < k → sh_sm x y w j p) ∨ (q < c ∧ ¬ sh_sm x y w q p ∧ ∀ j, j < k → ¬ sh_sm x y w j p → sh_G x y w a b p q j)
theorem sd_S_first {a b : Int} {p k q : Nat} (hk : k < c) (hn : ¬ sh_sm x y w k p) (hq : q = p) (h : sd_S x y w c a b p k q) : sd_S x y w c a b p (k + 1) k := by
  refine .inr ⟨hk, hn, fun j hj jn => ?_⟩
  by_cases e : j = k
  · subst e; exact sd_Gkk _ _ _ _
  · rcases h with ⟨_, h⟩ | ⟨_, h, _⟩
    · exact absurd (h j (by omega)) jn
    · exact absurd (show sh_sm x y w q p by rw [hq]; exact sh_sm_refl p) h
theorem sd_S_same {a b : Int} {p k q : Nat} (hs : sh_sm x y w k p) (h : sd_S x y w c a b p k q) : sd_S x y w c a b p (k + 1) q := by
  rcases h with ⟨e, h⟩ | ⟨h1, h2, h3⟩
  · refine .inl ⟨e, fun j hj => ?_⟩
    by_cases z : j = k
    · subst z; exact hs
    · exact h j (by omega)
  · refine .inr ⟨h1, h2, fun j hj jn => ?_⟩
    by_cases z : j = k
    · subst z; exact absurd hs jn
    · exact h3 j (by omega) jn
theorem sd_S_keep {a b : Int} {p k q : Nat} (hG : sh_G x y w a b p q k) (hq : q ≠ p) (h : sd_S x y w c a b p k q) : sd_S x y w c a b p (k + 1) q := by
  rcases h with ⟨e, h⟩ | ⟨h1, h2, h3⟩
  · exact absurd e hq
  · refine .inr ⟨h1, h2, fun j hj jn => ?_⟩
    by_cases z : j = k
    · subst z; exact hG
    · exact h3 j (by omega) jn
theorem sd_S_new {a b : Int} {p k q : Nat} (hw : ∀ j, j < c → 0 < w j) (hE : ∀ j, j < c → ¬ sh_sm x y w j p → 0 < sh_h x y w a b p j) (hk : k < c) (hn : ¬ sh_sm x y w k p) (hG : ¬ sh_G x y w a b p q k) (hq : q ≠ p)
    (h : sd_S x y w c a b p k q) : sd_S x y w c a b p (k + 1) k := by
  rcases h with ⟨e, h⟩ | ⟨h1, h2, h3⟩
  · exact absurd e hq
  · refine .inr ⟨hk, hn, fun j hj jn => ?_⟩
    by_cases z : j = k
    · subst z; exact sd_Gkk _ _ _ _
    · refine sh_Gtrans (q := q) (hw q h1) (hw k hk) (hw j (by omega)) (hE q h1 h2) (hE k hk hn) (hE j (by omega) jn) ?_ (h3 j (by omega) jn)
      unfold sh_G at hG
      omega
/-- there is a next one, or all are the same -/
theorem sd_next {p : Nat} (hw : ∀ j, j < c → 0 < w j) (hE : sh_E x y w c p) : (∀ j, j < c → sh_sm x y w j p) ∨ ∃ q, sh_N x y w c p q := by
  obtain ⟨a, b, hE⟩ := hE
  have K : ∀ k, k ≤ c → ∃ q, sd_S x y w c a b p k q := by
    intro k
    induction k with
    | zero => intro _; exact ⟨p, .inl ⟨rfl, fun j hj => by omega⟩⟩
    | succ k ih =>
      intro hk
      obtain ⟨q, hq⟩ := ih (by omega)
      by_cases s : sh_sm x y w k p
      · exact ⟨q, sd_S_same s hq⟩
      · by_cases e : q = p
        · exact ⟨k, sd_S_first (by omega) s e hq⟩
        · by_cases g : sh_G x y w a b p q k
          · exact ⟨q, sd_S_keep g e hq⟩
          · exact ⟨k, sd_S_new hw hE (by omega) s g e hq⟩
  obtain ⟨q, hq⟩ := K c (Nat.le_refl _)
  rcases hq with ⟨_, h⟩ | ⟨h1, h2, h3⟩
  · exact .inl h
  · exact .inr ⟨q, h1, h2, a, b, hE, h3⟩
theorem sd_EO {p : Nat} (hw : ∀ j, j < c → 0 < w j) : sh_E x y w c p ↔ ((∀ j, j < c → sh_sm x y w j p) ∨ sh_O x y w c p) := by
  constructor
  · intro h
    rcases sd_next hw h with g | ⟨q, h1, h2, a, b, h3, h4⟩
    · exact .inl g
    · exact .inr (sh_O_G h1 h2 h3 h4)
  · intro h
    rcases h with h | h
    · exact ⟨0, 0, fun j hj jn => absurd (h j hj) jn⟩
    · exact sh_E_O h
/-- the number of outer points -/
noncomputable def sd_n (x y w : Nat → Int) (c : Nat) : Nat := gm_cn (fun k => (∀ j, j < k → ¬ sh_sm x y w j k) ∧ sh_E x y w c k) c
theorem sd_I_cg {P P' : Nat → Nat} {i : Nat} (e : ∀ t, t ≤ i → P t = P' t) (h : sh_I x y w c P i) : sh_I x y w c P' i := by
  obtain ⟨h1, h2, h3, h4⟩ := h
  have e0 := e 0 (by omega)
  have ei := e i (by omega)
  refine ⟨fun t ht => e t ht ▸ h1 t ht, fun t a b => ?_, fun r hr re rn => ?_, fun s t a b => ?_⟩
  · rw [← e t b, ← e0]; exact h2 t a b
  · rw [← e0] at rn
    rw [← e0, ← ei, ← h3 r hr re rn]
    constructor
    · intro hx
      obtain ⟨t, a, b, g⟩ := hx
      exact ⟨t, a, b, by rw [e t b]; exact g⟩
    · intro hx
      obtain ⟨t, a, b, g⟩ := hx
      exact ⟨t, a, b, by rw [← e t b]; exact g⟩
  · rw [← e t b, ← e s (by omega)]; exact h4 s t a b
theorem sd_one (hw : ∀ j, j < c → 0 < w j) {s : Nat} (hs : s < c) (h : ∀ j, j < c → sh_sm x y w j s) : sd_n x y w c = 1 :=
  sh_cnt (P := fun _ => s) (m := 1) hw (fun t _ => ⟨hs, (sd_EO hw).mpr (.inl h)⟩) (fun a b h1 h2 => by omega) (fun r hr _ => ⟨0, by omega, h r hr⟩)
theorem sd_back (hw : ∀ j, j < c → 0 < w j) {P : Nat → Nat} {i q : Nat} (hi : 1 ≤ i) (h : sh_I x y w c P i) (hN : sh_N x y w c (P i) q) (hs : sh_sm x y w q (P 0)) : sd_n x y w c = i + 1 :=
  sh_cnt (P := P) hw (fun t ht => h.1 t (by omega)) (fun a b h1 h2 => h.2.2.2 a b h1 (by omega)) (fun r hr re => by
    obtain ⟨t, ht, g⟩ := sh_end hw hi h hN hs r hr re
    exact ⟨t, by omega, g⟩)
theorem sd_full (hw : ∀ j, j < c → 0 < w j) {P : Nat → Nat} {i : Nat} (hi : i + 1 = c) (h : sh_I x y w c P i) : sd_n x y w c = c := by
  subst hi
  refine sh_cnt (P := P) hw (fun t ht => h.1 t (by omega)) (fun a b h1 h2 => h.2.2.2 a b h1 (by omega)) (fun r hr re => ?_)
  obtain ⟨t, ht, e⟩ := sh_surj (P := P) (fun t ht => (h.1 t (by omega)).1) (fun a b h1 h2 e => h.2.2.2 a b h1 (by omega) (e ▸ sh_sm_refl _)) hr
  exact ⟨t, ht, e ▸ sh_sm_refl _⟩
end
