/-! The reference sorts its list -/
section
variable {fn fp fk : Int32} {nr nb gu gv gw gd gx gy gz gb gt gf : Nat → Int32} {Q f : Nat → gm_V} {n c : Nat}
def yw_SI (V : gm_V → Prop) (j k c : Nat) (g : Nat → gm_V) : Prop :=
  (∀ a, a < c → V (g a)) ∧ (∀ a b, a < b → b < c → ¬ gm_pr (g a) (g b)) ∧ (∀ p, V p → ∃ a, a < c ∧ g a = p) ∧
  (∀ a b, a < b → b < c → (a < j ∨ (a = j ∧ b < k)) → gm_lt (g a) (g b))
theorem yw_sw_ex {g : Nat → gm_V} {j k c a : Nat} (hj : j < c) (hk : k < c) (ha : a < c) : ∃ b, b < c ∧ ls_sw g j k a = g b := by
  unfold ls_sw
  by_cases e : a = j
  · exact ⟨k, hk, by rw [if_pos e]⟩
  · rw [if_neg e]
    by_cases e2 : a = k
    · exact ⟨j, hj, by rw [if_pos e2]⟩
    · exact ⟨a, ha, by rw [if_neg e2]⟩
theorem yw_sw_j {g : Nat → gm_V} {j k : Nat} : ls_sw g j k j = g k := if_pos rfl
theorem yw_sw_k {g : Nat → gm_V} {j k : Nat} : ls_sw g j k k = g j := by
  unfold ls_sw
  by_cases e : k = j
  · subst e; rw [if_pos rfl]
  · rw [if_neg e, if_pos rfl]
theorem yw_sw_o {g : Nat → gm_V} {j k a : Nat} (h1 : a ≠ j) (h2 : a ≠ k) : ls_sw g j k a = g a := by
  unfold ls_sw
  rw [if_neg h1, if_neg h2]
theorem yw_SI_sw {V : gm_V → Prop} {j k : Nat} {g : Nat → gm_V} (hV : ∀ p, V p → 0 < p.2.2.2) (hjk : j < k) (hk : k < c) (h : yw_SI V j k c g) (hl : gm_lt (g k) (g j)) : yw_SI V j (k + 1) c (ls_sw g j k) := by
  obtain ⟨h1, h2, h3, h4⟩ := h
  have h2' : ∀ a b, a ≠ b → a < c → b < c → ¬ gm_pr (g a) (g b) := by
    intro a b hab ha hb z
    rcases Nat.lt_or_gt_of_ne hab with k | k
    · exact h2 a b k hb z
    · exact h2 b a k ha (gm_pr_symm z)
  refine ⟨fun a ha => ?_, fun a b hab hb => ?_, fun p hp => ?_, fun a b hab hb hc => ?_⟩
  · obtain ⟨b, hb, e⟩ := yw_sw_ex (g := g) (show j < c by omega) hk ha
    rw [e]; exact h1 b hb
  · by_cases a1 : a = j
    · subst a1
      rw [yw_sw_j]
      by_cases b1 : b = k
      · subst b1; rw [yw_sw_k]; exact h2' _ _ (by omega) (by omega) (by omega)
      · rw [yw_sw_o (by omega) b1]; exact h2' _ _ (by omega) (by omega) (by omega)
    · by_cases a2 : a = k
      · subst a2
        rw [yw_sw_k, yw_sw_o (by omega) (by omega)]; exact h2' _ _ (by omega) (by omega) (by omega)
      · rw [yw_sw_o a1 a2]
        by_cases b1 : b = j
        · subst b1; rw [yw_sw_j]; exact h2' _ _ (by omega) (by omega) (by omega)
        · by_cases b2 : b = k
          · subst b2; rw [yw_sw_k]; exact h2' _ _ (by omega) (by omega) (by omega)
          · rw [yw_sw_o b1 b2]; exact h2' _ _ (by omega) (by omega) (by omega)
  · obtain ⟨a, ha, e⟩ := h3 p hp
    by_cases a1 : a = j
    · subst a1; exact ⟨k, hk, by rw [yw_sw_k]; exact e⟩
    · by_cases a2 : a = k
      · subst a2; exact ⟨j, by omega, by rw [yw_sw_j]; exact e⟩
      · exact ⟨a, ha, by rw [yw_sw_o a1 a2]; exact e⟩
  · rcases hc with hc | ⟨hc, hb2⟩
    · rw [yw_sw_o (by omega) (by omega)]
      by_cases b1 : b = j
      · subst b1; rw [yw_sw_j]; exact h4 a k (by omega) hk (.inl hc)
      · by_cases b2 : b = k
        · subst b2; rw [yw_sw_k]; exact h4 a j (by omega) (by omega) (.inl hc)
        · rw [yw_sw_o b1 b2]; exact h4 a b hab hb (.inl hc)
    · subst hc
      rw [yw_sw_j]
      by_cases b2 : b = k
      · subst b2; rw [yw_sw_k]; exact hl
      · rw [yw_sw_o (by omega) b2]
        exact gm_lt_trans (hV _ (h1 k hk)) (hV _ (h1 a (by omega))) (hV _ (h1 b hb)) hl (h4 a b hab hb (.inr ⟨rfl, by omega⟩))
theorem yw_SI_no {V : gm_V → Prop} {j k : Nat} {g : Nat → gm_V} (hjk : j < k) (hk : k < c) (h : yw_SI V j k c g) (hl : ¬ gm_lt (g k) (g j)) : yw_SI V j (k + 1) c g := by
  obtain ⟨h1, h2, h3, h4⟩ := h
  refine ⟨h1, h2, h3, fun a b hab hb hc => ?_⟩
  by_cases e : a = j ∧ b = k
  · obtain ⟨e1, e2⟩ := e
    subst e1 e2
    apply Classical.byContradiction
    intro z
    exact h2 a b hab hb (gm_tri z hl)
  · exact h4 a b hab hb (by omega)
theorem yw_f85 {post : SY → Prop} {V : gm_V → Prop} {J : Int32 → Int32 → Int32 → Int32 → (Nat → Int32) → (Nat → Int32) → (Nat → Int32) → (Nat → Int32) → (Nat → Int32) → (Nat → Int32) → (Nat → Int32) → (Nat → Int32) → (Nat → Int32) → (Nat → Int32) → (Nat → Int32) → (Nat → Int32) → Prop}
    (hV : ∀ p, V p → 0 < p.2.2.2) (hb : ∀ p, V p → gm_bd p) (hc : c ≤ 32) {j : Nat} (hj : j < c)
    (h : ∀ f gx gy gz gb gt, yw_A gx gy gz gb c f → xw_T gt c n Q f → yw_SI V j c c f → J (nI (j + 1)) fn (nI n) (nI c) nr nb gu gv gw gd gx gy gz gb gt gf) :
    ∀ (d k : Nat) (f : Nat → gm_V) (gx gy gz gb gt : Nat → Int32), k + d = c → j < k → yw_A gx gy gz gb c f → xw_T gt c n Q f → yw_SI V j k c f →
      wY_findCorners_85 post J (nI j) (d + 1) (nI k) fn (nI n) (nI c) nr nb gu gv gw gd gx gy gz gb gt gf := by
  intro d
  induction d with
  | zero =>
    intro k f gx gy gz gb gt hk _ hC hT hS
    have : k = c := by omega
    subst this
    exact br_t (nI_le (Nat.le_refl _) (by omega)) (nm_r (nI_1 j) (h f _ _ _ _ _ hC hT hS))
  | succ d ih =>
    intro k f gx gy gz gb gt hk hjk hC hT hS
    refine br_f (nI_ge (by omega) (by omega)) (yw_before hC (by omega) (by omega) hj (hb _ (hS.1 k (by omega))) (hb _ (hS.1 j hj)) (fun g => ?_) (fun g => ?_))
    · refine br_f (by decide) (yw_exch hC hT (by omega) hj (by omega) (by omega) (fun gx gy gz gb gt g1 g2 => ?_))
      exact nm_r (nI_1 k) (ih (k + 1) _ _ _ _ _ _ (by omega) (by omega) g1 g2 (yw_SI_sw hV hjk (by omega) hS g))
    · exact br_t rfl (nm_r (nI_1 k) (ih (k + 1) f _ _ _ _ _ (by omega) (by omega) hC hT (yw_SI_no hjk (by omega) hS g)))
theorem yw_f73 {post : SY → Prop} {V : gm_V → Prop} (hV : ∀ p, V p → 0 < p.2.2.2) (hb : ∀ p, V p → gm_bd p) (hc : c ≤ 32)
    (h : ∀ f gx gy gz gb gt, yw_A gx gy gz gb c f → xw_T gt c n Q f → ls_L V c f → post (fn, nI n, nI c, nr, nb, gu, gv, gw, gd, gx, gy, gz, gb, gt, gf)) :
    ∀ (d j : Nat) (f : Nat → gm_V) (gx gy gz gb gt : Nat → Int32), j + d = c → yw_A gx gy gz gb c f → xw_T gt c n Q f → yw_SI V j 0 c f →
      wY_findCorners_73 post (d + 1) (nI j) fn (nI n) (nI c) nr nb gu gv gw gd gx gy gz gb gt gf := by
  intro d
  induction d with
  | zero =>
    intro j f gx gy gz gb gt hj hC hT hS
    have : j = c := by omega
    subst this
    exact br_t (nI_le (Nat.le_refl _) (by omega)) (h f _ _ _ _ _ hC hT ⟨hS.1, fun a b hab hb => hS.2.2.2 a b hab hb (.inl (by omega)), hS.2.2.1⟩)
  | succ d ih =>
    intro j f gx gy gz gb gt hj hC hT hS
    refine br_f (nI_ge (by omega) (by omega)) (nm_r (nI_1 j) ⟨c - (j + 1) + 1, yw_f85 hV hb hc (by omega) (fun f gx gy gz gb gt g1 g2 g3 => ?_) (c - (j + 1)) (j + 1) f _ _ _ _ _ (by omega) (by omega) hC hT
      ⟨hS.1, hS.2.1, hS.2.2.1, fun a b hab hb hc => hS.2.2.2 a b hab hb (by omega)⟩⟩)
    exact ih (j + 1) f _ _ _ _ _ (by omega) g1 g2 ⟨g3.1, g3.2.1, g3.2.2.1, fun a b hab hb hc => g3.2.2.2 a b hab hb (by omega)⟩
theorem yw_fc {post : SY → Prop} (hQ : yw_A gu gv gw gd n Q) (hn : n ≤ 16) (hok : ∀ i, i < n → gm_ok (Q i))
    (h : ∀ c f gx gy gz gb gt, c ≤ 32 → ls_L (gm_Vt Q (fun p => p < n)) c f → yw_A gx gy gz gb c f → xw_T gt c n Q f → post (fn, nI n, nI c, nr, nb, gu, gv, gw, gd, gx, gy, gz, gb, gt, gf)) :
    wpY_findCorners post (fn, nI n, fk, nr, nb, gu, gv, gw, gd, gx, gy, gz, gb, gt, gf) := by
  refine ⟨257, yw_f7 hQ hn hok (fun c f gx gy gz gb gt hC hT hF => ?_) 256 0 0 (fun _ => (0, 0, 0, 0)) _ _ _ _ _ (by omega) (fun k hk => by omega) (fun k hk => by omega)
    ⟨fun a ha => by omega, fun a b _ hb => by omega, fun a b d _ _ _ h4 => by omega⟩⟩
  have hc := yw_FI_c hn hF
  refine ⟨c + 1, yw_f73 (V := gm_Vt Q (fun p => p < n)) (fun p hp => hp.1.1) (fun p hp => gm_vt_bd (fun i hi => hok i hi) hp) hc (fun f gx gy gz gb gt g1 g2 g3 => h c f _ _ _ _ _ hc g3 g1 g2)
    c 0 f _ _ _ _ _ (by omega) hC hT ⟨hF.1, fun a b hab hb z => ?_, fun p hp => ?_, fun a b _ _ hc => by omega⟩⟩
  · exact hF.2.1 a b hab hb (gm_pr_eq z (hF.1 a (by omega)).1.1 (hF.1 b hb).1.1 (hF.1 a (by omega)).2 (hF.1 b hb).2)
  · obtain ⟨a, b, d, h1, h2, ha, hb, hd, hdt, e⟩ := gm_vt_pt hp
    obtain ⟨m, hm, e2⟩ := hF.2.2 a b d h1 h2 hd (by omega) hdt (e ▸ hp.1.2.1)
    exact ⟨m, hm, e2.trans e.symm⟩
end
