/-! The component finds the list of the corners -/
section
theorem nx_or2 (a b : Nat) : nI a ||| nI b = nI (a ||| b) := by
  apply Int32.toBitVec_inj.1
  show BitVec.ofNat 32 a ||| BitVec.ofNat 32 b = BitVec.ofNat 32 (a ||| b)
  apply BitVec.eq_of_getLsbD_eq
  intro i hi
  simp [hi]
theorem nx_bitp {p : Nat} (hp : p < 31) : (1 : Int32) <<< (nI p &&& 31) = nI (2 ^ p) := by
  have := pk_shlN (n := 1) (nI p &&& 31) p (s_l p (by omega)) (by
    have : 2 ^ p < 2 ^ 31 := Nat.pow_lt_pow_right (by decide) hp
    omega)
  rw [Nat.one_mul] at this
  exact this

variable {fc ff : Int32} {pl co tt st : Nat → Int32} {Q f : Nat → gm_V} {n c : Nat}
/-- the masks of the planes through each corner -/
def xw_T (t : Nat → Int32) (c n : Nat) (Q f : Nat → gm_V) : Prop := ∀ k, k < c → ∃ m, t k = nI m ∧ nu_ms m n (fun p => gm_ev (Q p) (f k) = 0)

theorem xw_thr5 {post : Int32 → Prop} (hP : xw_C pl n Q) (hn : n ≤ 16) (hok : ∀ i, i < n → gm_ok (Q i)) (hC : xw_C co c f) (hc : c ≤ 33) {k : Nat} (hk : k < c) (hb : gm_bd (f k))
    (h : ∀ m, nu_ms m n (fun p => gm_ev (Q p) (f k) = 0) → post (nI m)) :
    ∀ (d p m : Nat), p + d = n → nu_ms m p (fun p => gm_ev (Q p) (f k) = 0) → wX_planesThrough_5 post (nI k) (nI n) fc ff pl co tt st (d + 1) (nI m) (nI p) := by
  intro d
  induction d with
  | zero =>
    intro p m hp hm
    have : p = n := by omega
    subst this
    exact br_t (nI_le (Nat.le_refl _) (by omega)) (h m hm)
  | succ d ih =>
    intro p m hp hm
    have eb := gm_ev_bd (hok p (by omega)) hb
    refine br_f (nI_ge (by omega) (by omega)) (xw_excess hP hC (by omega) hn hk hc ?_)
    refine br_c (fun g => ?_) (fun g => nm_r (nI_1 p) (ih (p + 1) m (by omega) (nu_ms_f hm (fun z => g ((nu_eq0 (by omega) (by omega)).mpr z)))))
    have g' := (nu_eq0 (by omega) (by omega)).mp g
    refine nm_r ?_ (nm_r (nI_1 p) (ih (p + 1) (m ||| 2 ^ p) (by omega) (nu_ms_t hm g')))
    rw [nx_bitp (by omega), nx_or2]
theorem xw_thr {post : Int32 → Prop} (hP : xw_C pl n Q) (hn : n ≤ 16) (hok : ∀ i, i < n → gm_ok (Q i)) (hC : xw_C co c f) (hc : c ≤ 33) {k : Nat} (hk : k < c) (hb : gm_bd (f k))
    (h : ∀ m, nu_ms m n (fun p => gm_ev (Q p) (f k) = 0) → post (nI m)) : wpX_planesThrough post (fc, ff, pl, co, tt, st) (nI k) (nI n) :=
  ⟨n + 1, xw_thr5 hP hn hok hC hc hk hb h n 0 0 (by omega) (nu_ms_0 _)⟩
theorem xw_f109 {post : SX → Prop} (hP : xw_C pl n Q) (hn : n ≤ 16) (hok : ∀ i, i < n → gm_ok (Q i)) (hC : xw_C co c f) (hc : c ≤ 32) (hb : ∀ k, k < c → gm_bd (f k))
    (h : ∀ tt', xw_T tt' c n Q f → post (fc, nI c, pl, co, tt', st)) :
    ∀ (d k : Nat) (tt : Nat → Int32), k + d = c → xw_T tt k n Q f → wX_findCorners_109 post (nI n) fc (nI c) (d + 1) (nI k) pl co tt st := by
  intro d
  induction d with
  | zero =>
    intro k tt hk hT
    have : k = c := by omega
    subst this
    exact br_t (nI_le (Nat.le_refl _) (by omega)) (h tt hT)
  | succ d ih =>
    intro k tt hk hT
    refine br_f (nI_ge (by omega) (by omega)) (xw_thr hP hn hok hC (by omega) (by omega) (hb k (by omega)) (fun m hm => ?_))
    rw [nI_clamp (by omega)]
    refine ⟨vp_in_nI (by omega) (by omega), nm_e (nm_r (nI_1 k) (ih (k + 1) _ (by omega) (fun j hj => ?_)))⟩
    by_cases e : j = k
    · subst e; exact ⟨m, pk_us, hm⟩
    · rw [pk_un e]; exact hT j (by omega)

variable {lf : Int32} {L : Nat → Prop}
/-- what is found when the triples before (i, j, k) are done -/
def xw_FI (Q : Nat → gm_V) (n : Nat) (L : Nat → Prop) (i j k c : Nat) (f : Nat → gm_V) : Prop :=
  (∀ a, a < c → gm_Vt Q (fun p => p < n ∧ ¬ L p) (f a)) ∧ (∀ a b, a < b → b < c → gm_lt (f a) (f b)) ∧
  ∀ a b d, a < b → b < d → d < n → (a < i ∨ (a = i ∧ (b < j ∨ (b = j ∧ d < k)))) → ¬ L a → ¬ L b → ¬ L d → gm_dt (Q a) (Q b) (Q d) ≠ 0 →
    gm_In Q (fun p => p < n ∧ ¬ L p) (gm_pt (Q a) (Q b) (Q d)) → ∃ m, m < c ∧ f m = gm_pt (Q a) (Q b) (Q d)
theorem xw_FI_c {i j k : Nat} (hn : n ≤ 16) (h : xw_FI Q n L i j k c f) : c ≤ 32 := by
  have := gm_bound (Q := Q) (ac := fun p => p < n ∧ ¬ L p) (n := n) (fun i hi => hi.1) c f (fun a ha => (h.1 a ha).1) (fun a b hab hb => gm_lt_npr (h.2.1 a b hab hb))
  omega
/-- a new corner can't come when 32 are there -/
theorem xw_FI_33 {i j k : Nat} {p : gm_V} (hn : n ≤ 16) (h : xw_FI Q n L i j k 32 f) (hp : gm_Vt Q (fun p => p < n ∧ ¬ L p) p) : ∃ a, a < 32 ∧ f a = p := by
  apply Classical.byContradiction
  intro hx
  have hnp : ∀ a, a < 32 → ¬ gm_pr (f a) p := fun a ha z => hx ⟨a, ha, gm_pr_eq z (h.1 a ha).1.1 hp.1.1 (h.1 a ha).2 hp.2⟩
  have := gm_bound (Q := Q) (ac := fun p => p < n ∧ ¬ L p) (n := n) (fun i hi => hi.1) 33 (fun a => if a < 32 then f a else p) (fun a ha => by
    by_cases e : a < 32
    · rw [if_pos e]; exact (h.1 a e).1
    · rw [if_neg e]; exact hp.1) (fun a b hab hb => by
    rw [if_pos (by omega)]
    by_cases e : b < 32
    · rw [if_pos e]; exact gm_lt_npr (h.2.1 a b hab e)
    · rw [if_neg e]; exact hnp a (by omega))
  omega
theorem xw_FI_skip {i j k : Nat} (h : xw_FI Q n L i j k c f)
    (hx : ¬ L i → ¬ L j → ¬ L k → gm_dt (Q i) (Q j) (Q k) ≠ 0 → gm_In Q (fun p => p < n ∧ ¬ L p) (gm_pt (Q i) (Q j) (Q k)) → ∃ m, m < c ∧ f m = gm_pt (Q i) (Q j) (Q k)) :
    xw_FI Q n L i j (k + 1) c f := by
  refine ⟨h.1, h.2.1, fun a b d h1 h2 h3 h4 la lb ld hd hin => ?_⟩
  by_cases e : a = i ∧ b = j ∧ d = k
  · obtain ⟨e1, e2, e3⟩ := e
    subst e1 e2 e3
    exact hx la lb ld hd hin
  · exact h.2.2 a b d h1 h2 h3 (by omega) la lb ld hd hin
theorem xw_FI_new {i j k q : Nat} {p : gm_V} (h : xw_FI Q n L i j k c f) (hp : gm_Vt Q (fun p => p < n ∧ ¬ L p) p) (he : p = gm_pt (Q i) (Q j) (Q k)) (hq : q ≤ c)
    (h1 : ∀ a, a < q → gm_lt (f a) p) (h2 : ∀ a, q ≤ a → a < c → gm_lt p (f a)) : xw_FI Q n L i j (k + 1) (c + 1) (ls_ins f p q) := by
  refine ⟨fun a ha => ?_, ls_ins_sorted h.2.1 hq h1 h2, fun a b d g1 g2 g3 g4 la lb ld hd hin => ?_⟩
  · rcases (ls_ins_mem (f := f) (p := p) hq (ls_ins f p q a)).mp ⟨a, ha, rfl⟩ with e | ⟨m, hm, e⟩
    · rw [e]; exact hp
    · rw [← e]; exact h.1 m hm
  · apply (ls_ins_mem hq _).mpr
    by_cases e : a = i ∧ b = j ∧ d = k
    · obtain ⟨e1, e2, e3⟩ := e
      subst e1 e2 e3
      exact .inl he.symm
    · exact .inr (h.2.2 a b d g1 g2 g3 (by omega) la lb ld hd hin)

theorem xw_f57 {post : SX → Prop} {J7 J17 J29 : Int32 → Int32 → Int32 → (Nat → Int32) → (Nat → Int32) → (Nat → Int32) → (Nat → Int32) → Prop}
    (hL : xw_L n lf L) (hP : xw_C pl n Q) (hn : n ≤ 16) (hok : ∀ i, i < n → gm_ok (Q i)) {i j k : Nat} (hi : i < n) (hj : j < n) (hk : k < n)
    (li : ¬ L i) (lj : ¬ L j) (lk : ¬ L k) (hC : xw_C co c f) (hF : xw_FI Q n L i j k c f)
    (h : ∀ c f co, xw_C co c f → xw_FI Q n L i j (k + 1) c f → J29 (nI (k + 1)) fc (nI c) pl co tt st) :
    wX_findCorners_57 post J7 J17 J29 (nI n) lf (nI i) (nI j) (nI k) 1 fc (nI c) pl co tt st := by
  have hc := xw_FI_c hn hF
  refine br_f (by decide) (xw_meet hP hn hok hC hc hi hj hk (fun h0 => ?_) (fun h1 co' hC' => ?_))
  · exact br_t rfl (nm_r (nI_1 k) (h c f co hC (xw_FI_skip hF (fun _ _ _ hd => absurd h0 hd))))
  · have hbd : ∀ a, a < c → gm_bd (f a) := fun a ha => gm_vt_bd (fun i hi => hok i hi.1) (hF.1 a ha)
    have hbp : gm_bd (gm_pt (Q i) (Q j) (Q k)) := gm_red_bd (gm_cp_bd (hok i hi) (hok j hj) (hok k hk))
    have hC0 : xw_C co' c f := fun a ha => by
      have := hC' a (by omega)
      rwa [ls_ins_lo ha] at this
    have fe : ls_ins f (gm_pt (Q i) (Q j) (Q k)) c c = gm_pt (Q i) (Q j) (Q k) := ls_ins_eq
    refine br_f (by decide) (xw_inside hL hP hn hok hC' hc (by rw [fe]; exact hbp) (fun hin => ?_) (fun hin => ?_))
    · rw [fe] at hin
      have hvt := gm_pt_vt (Q := Q) (ac := fun p => p < n ∧ ¬ L p) ⟨hi, li⟩ ⟨hj, lj⟩ ⟨hk, lk⟩ h1 hin
      refine br_f (by decide) (xw_keep hC' hc hbd hbp (fun a ha => (hF.1 a ha).1.1) hvt.1.1 hF.2.1 (fun e => ?_) (fun hx => ?_) (fun e q co2 hq q1 q2 hC2 => ?_))
      · subst e
        exact nm_r (nI_1 k) (h 32 f co' hC0 (xw_FI_skip hF (fun _ _ _ _ _ => xw_FI_33 hn hF hvt)))
      · obtain ⟨m, hm, hpr⟩ := hx
        exact nm_r (nI_1 k) (h c f co' hC0 (xw_FI_skip hF (fun _ _ _ _ _ => ⟨m, hm, gm_pr_eq hpr (hF.1 m hm).1.1 hvt.1.1 (hF.1 m hm).2 hvt.2⟩)))
      · exact nm_r (nI_1 k) (h (c + 1) _ co2 hC2 (xw_FI_new hF hvt rfl hq q1 q2))
    · rw [fe] at hin
      exact br_t rfl (nm_r (nI_1 k) (h c f co' hC0 (xw_FI_skip hF (fun _ _ _ _ z => absurd z hin))))
theorem xw_f56 {post : SX → Prop} {J7 J17 J29 : Int32 → Int32 → Int32 → (Nat → Int32) → (Nat → Int32) → (Nat → Int32) → (Nat → Int32) → Prop}
    {i j k : Nat} (hl : L i ∨ L j ∨ L k) (hC : xw_C co c f) (hF : xw_FI Q n L i j k c f)
    (h : ∀ c f co, xw_C co c f → xw_FI Q n L i j (k + 1) c f → J29 (nI (k + 1)) fc (nI c) pl co tt st) :
    wX_findCorners_56 post J7 J17 J29 (nI n) lf (nI i) (nI j) (nI k) fc (nI c) pl co tt st := by
  unfold wX_findCorners_56
  refine br_t rfl (nm_r (nI_1 k) (h c f co hC (xw_FI_skip hF (fun a b d => ?_))))
  rcases hl with z | z | z
  · exact absurd z a
  · exact absurd z b
  · exact absurd z d
theorem xw_f29 {post : SX → Prop} {J7 J17 : Int32 → Int32 → Int32 → (Nat → Int32) → (Nat → Int32) → (Nat → Int32) → (Nat → Int32) → Prop}
    (hL : xw_L n lf L) (hP : xw_C pl n Q) (hn : n ≤ 16) (hok : ∀ i, i < n → gm_ok (Q i)) {i j : Nat} (hi : i < n) (hj : j < n)
    (h : ∀ c f co, xw_C co c f → xw_FI Q n L i j n c f → J17 (nI (j + 1)) fc (nI c) pl co tt st) :
    ∀ (d k c : Nat) (f : Nat → gm_V) (co : Nat → Int32), k + d = n → xw_C co c f → xw_FI Q n L i j k c f →
      wX_findCorners_29 post J7 J17 (nI n) lf (nI i) (nI j) (d + 1) (nI k) fc (nI c) pl co tt st := by
  intro d
  induction d with
  | zero =>
    intro k c f co hk hC hF
    have : k = n := by omega
    subst this
    exact br_t (nI_le (Nat.le_refl _) (by omega)) (nm_r (nI_1 j) (h c f co hC hF))
  | succ d ih =>
    intro k c f co hk hC hF
    have nx : ∀ c f co, xw_C co c f → xw_FI Q n L i j (k + 1) c f → wX_findCorners_29 post J7 J17 (nI n) lf (nI i) (nI j) (d + 1) (nI (k + 1)) fc (nI c) pl co tt st :=
      fun c f co a b => ih (k + 1) c f co (by omega) a b
    refine br_f (nI_ge (by omega) (by omega)) (br_c (fun e => xw_f56 (.inl ((hL i hi).mp e)) hC hF nx) (fun e1 => br_c (fun e => xw_f56 (.inr (.inl ((hL j hj).mp e))) hC hF nx)
      (fun e2 => br_c (fun e => xw_f56 (.inr (.inr ((hL k (by omega)).mp e))) hC hF nx) (fun e3 => ?_))))
    exact xw_f57 hL hP hn hok hi hj (by omega) (fun z => e1 ((hL i hi).mpr z)) (fun z => e2 ((hL j hj).mpr z)) (fun z => e3 ((hL k (by omega)).mpr z)) hC hF nx
theorem xw_f17 {post : SX → Prop} {J7 : Int32 → Int32 → Int32 → (Nat → Int32) → (Nat → Int32) → (Nat → Int32) → (Nat → Int32) → Prop}
    (hL : xw_L n lf L) (hP : xw_C pl n Q) (hn : n ≤ 16) (hok : ∀ i, i < n → gm_ok (Q i)) {i : Nat} (hi : i < n)
    (h : ∀ c f co, xw_C co c f → xw_FI Q n L i n 0 c f → J7 (nI (i + 1)) fc (nI c) pl co tt st) :
    ∀ (d j c : Nat) (f : Nat → gm_V) (co : Nat → Int32), j + d = n → xw_C co c f → xw_FI Q n L i j 0 c f →
      wX_findCorners_17 post J7 (nI n) lf (nI i) (d + 1) (nI j) fc (nI c) pl co tt st := by
  intro d
  induction d with
  | zero =>
    intro j c f co hj hC hF
    have : j = n := by omega
    subst this
    exact br_t (nI_le (Nat.le_refl _) (by omega)) (nm_r (nI_1 i) (h c f co hC hF))
  | succ d ih =>
    intro j c f co hj hC hF
    refine br_f (nI_ge (by omega) (by omega)) (nm_r (nI_1 j) ⟨n - (j + 1) + 1, xw_f29 hL hP hn hok hi (by omega) (fun c f co hC hF => ?_) (n - (j + 1)) (j + 1) c f co (by omega) hC ?_⟩)
    · refine ih (j + 1) c f co (by omega) hC ⟨hF.1, hF.2.1, fun a b d h1 h2 h3 h4 => hF.2.2 a b d h1 h2 h3 (by omega)⟩
    · exact ⟨hF.1, hF.2.1, fun a b d h1 h2 h3 h4 => hF.2.2 a b d h1 h2 h3 (by omega)⟩
theorem xw_f7 {post : SX → Prop} (hL : xw_L n lf L) (hP : xw_C pl n Q) (hn : n ≤ 16) (hok : ∀ i, i < n → gm_ok (Q i))
    (h : ∀ c f co tt', c ≤ 32 → ls_L (gm_Vt Q (fun p => p < n ∧ ¬ L p)) c f → xw_C co c f → xw_T tt' c n Q f → post (fc, nI c, pl, co, tt', st)) :
    ∀ (d i c : Nat) (f : Nat → gm_V) (co : Nat → Int32), i + d = n → xw_C co c f → xw_FI Q n L i 0 0 c f →
      wX_findCorners_7 post (nI n) lf (d + 1) (nI i) fc (nI c) pl co tt st := by
  intro d
  induction d with
  | zero =>
    intro i c f co hi hC hF
    have : i = n := by omega
    subst this
    have hc := xw_FI_c hn hF
    have hbd : ∀ a, a < c → gm_bd (f a) := fun a ha => gm_vt_bd (fun i hi => hok i hi.1) (hF.1 a ha)
    refine br_t (nI_le (Nat.le_refl _) (by omega)) ⟨c + 1, xw_f109 hP hn hok hC hc hbd (fun tt' hT => h c f co tt' hc ⟨hF.1, hF.2.1, fun p hp => ?_⟩ hC hT) c 0 tt (by omega) (fun k hk => by omega)⟩
    obtain ⟨a, b, d, h1, h2, ha, hb, hd, hdt, e⟩ := gm_vt_pt hp
    obtain ⟨m, hm, e2⟩ := hF.2.2 a b d h1 h2 hd.1 (by omega) ha.2 hb.2 hd.2 hdt (e ▸ hp.1.2.1)
    exact ⟨m, hm, e2.trans e.symm⟩
  | succ d ih =>
    intro i c f co hi hC hF
    refine br_f (nI_ge (by omega) (by omega)) (nm_r (nI_1 i) ⟨n - (i + 1) + 1, xw_f17 hL hP hn hok (by omega) (fun c f co hC hF => ?_) (n - (i + 1)) (i + 1) c f co (by omega) hC ?_⟩)
    · refine ih (i + 1) c f co (by omega) hC ⟨hF.1, hF.2.1, fun a b d h1 h2 h3 h4 => hF.2.2 a b d h1 h2 h3 (by omega)⟩
    · exact ⟨hF.1, hF.2.1, fun a b d h1 h2 h3 h4 => hF.2.2 a b d h1 h2 h3 (by omega)⟩
theorem xw_find {post : SX → Prop} (hL : xw_L n lf L) (hP : xw_C pl n Q) (hn : n ≤ 16) (hok : ∀ i, i < n → gm_ok (Q i))
    (h : ∀ c f co tt', c ≤ 32 → ls_L (gm_Vt Q (fun p => p < n ∧ ¬ L p)) c f → xw_C co c f → xw_T tt' c n Q f → post (fc, nI c, pl, co, tt', st)) :
    wpX_findCorners post (fc, ff, pl, co, tt, st) (nI n) lf :=
  ⟨n + 1, xw_f7 hL hP hn hok h n 0 0 (fun _ => (0, 0, 0, 0)) co (by omega) (fun k hk => by omega)
    ⟨fun a ha => by omega, fun a b _ hb => by omega, fun a b d _ _ _ h4 => by omega⟩⟩
end
