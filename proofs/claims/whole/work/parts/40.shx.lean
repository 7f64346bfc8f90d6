/-! the component's walk around the shadow -/
section
variable {fc ff : Int32} {pl co tt st : Nat → Int32} {f : Nat → gm_V} {c u v : Nat}
def sd_x (f : Nat → gm_V) (u : Nat) : Nat → Int := fun k => gm_c (f k) u
def sd_w (f : Nat → gm_V) : Nat → Int := fun k => (f k).2.2.2
theorem sd_o_bd (hu : u < 3) {k l : Nat} (bk : gm_bd (f k)) (bl : gm_bd (f l)) : -4423680 ≤ sd_x f u k * sd_w f l - sd_x f u l * sd_w f k ∧ sd_x f u k * sd_w f l - sd_x f u l * sd_w f k ≤ 4423680 := gm_o_bd bk bl hu
theorem xw_oa {post : Int32 → Prop} (hC : xw_C co c f) (hc : c ≤ 33) (hu : u < 3) (hv : v < 3) {k l : Nat} (hk : k < c) (hl : l < c) (bk : gm_bd (f k)) (bl : gm_bd (f l))
    (h : ∀ d : Int, -4423680 ≤ d → d ≤ 4423680 → (d < 0 ↔ sd_lt (sd_x f u) (sd_x f v) (sd_w f) k l) → (0 < d ↔ sd_lt (sd_x f u) (sd_x f v) (sd_w f) l k) → (d = 0 ↔ sh_sm (sd_x f u) (sd_x f v) (sd_w f) k l) → post (nu_I d)) :
    wpX_orderAcross post (fc, ff, pl, co, tt, st) (nI k) (nI l) (nI u) (nI v) := by
  have o0 := sd_o_bd (f := f) hu bk bl
  have o1 := sd_o_bd (f := f) hv bk bl
  unfold wpX_orderAcross
  refine xw_along hC hc hk hl hu ?_
  refine br_c (fun e => ?_) (fun e => ?_)
  · have z := (nu_eq0 (a := sd_x f u k * sd_w f l - sd_x f u l * sd_w f k) (by omega) (by omega)).mp e
    refine xw_along hC hc hk hl hv (h (sd_x f v k * sd_w f l - sd_x f v l * sd_w f k) (by omega) (by omega) ?_ ?_ ?_)
    · unfold sd_lt; omega
    · unfold sd_lt; omega
    · unfold sh_sm; omega
  · have z := (not_congr (nu_eq0 (a := sd_x f u k * sd_w f l - sd_x f u l * sd_w f k) (by omega) (by omega))).mp e
    refine h (sd_x f u k * sd_w f l - sd_x f u l * sd_w f k) (by omega) (by omega) ?_ ?_ ?_
    · unfold sd_lt; omega
    · unfold sd_lt; omega
    · unfold sh_sm; omega
theorem sd_D_bd (hu : u < 3) (hv : v < 3) {k l m : Nat} (bk : gm_bd (f k)) (bl : gm_bd (f l)) (bm : gm_bd (f m)) :
    (-66355200 ≤ sd_x f u l * sd_x f v m - sd_x f u m * sd_x f v l ∧ sd_x f u l * sd_x f v m - sd_x f u m * sd_x f v l ≤ 66355200) ∧
    (-100000000000 ≤ sh_D (sd_x f u) (sd_x f v) (sd_w f) k l m ∧ sh_D (sd_x f u) (sd_x f v) (sd_w f) k l m ≤ 100000000000) := by
  have ul := gm_c_bd bl hu
  have um := gm_c_bd bm hu
  have uk := gm_c_bd bk hu
  have vl := gm_c_bd bl hv
  have vm := gm_c_bd bm hv
  have vk := gm_c_bd bk hv
  have p1 := nu_pb (A := 5760) (B := 5760) ul.1 ul.2 vm.1 vm.2
  have p2 := nu_pb (A := 5760) (B := 5760) um.1 um.2 vl.1 vl.2
  have q1 := sd_o_bd (f := f) hv bl bm
  have q2 := sd_o_bd (f := f) hu bl bm
  have r1 := nu_pb (A := 5760) (B := 4423680) uk.1 uk.2 q1.1 q1.2
  have r2 := nu_pb (A := 5760) (B := 4423680) vk.1 vk.2 q2.1 q2.2
  have e3 : -66355200 ≤ gm_c (f l) u * gm_c (f m) v - gm_c (f m) u * gm_c (f l) v ∧ gm_c (f l) u * gm_c (f m) v - gm_c (f m) u * gm_c (f l) v ≤ 66355200 := by omega
  have r3 := nu_pb (A := 384) (B := 66355200) bk.2.2.2.1 bk.2.2.2.2 e3.1 e3.2
  refine ⟨e3, ?_⟩
  simp only [sh_D, sd_x, sd_w] at *
  omega
theorem xw_turn {post : Int64 → Prop} (hC : xw_C co c f) (hc : c ≤ 33) (hu : u < 3) (hv : v < 3) {k l m : Nat} (hk : k < c) (hl : l < c) (hm : m < c) (bk : gm_bd (f k)) (bl : gm_bd (f l)) (bm : gm_bd (f m))
    (h : post (nu_L (sh_D (sd_x f u) (sd_x f v) (sd_w f) k l m))) : wpX_turn post (fc, ff, pl, co, tt, st) (nI k) (nI l) (nI m) (nI u) (nI v) := by
  have V : ∀ x : Nat, x < 132 → vp_in (nI x) 132 := fun x hx => vp_in_nI hx (by omega)
  have q1 := sd_o_bd (f := f) hv bl bm
  have q2 := sd_o_bd (f := f) hu bl bm
  have q3 := (sd_D_bd (f := f) hu hv bk bl bm).1
  have k1 := gm_c_bd bk hu
  have k2 := gm_c_bd bk hv
  have k3 := bk.2.2.2
  simp only [sd_x, sd_w] at q1 q2 q3
  refine nm_r (xw_4 k) (nm_r (xw_4 l) (nm_r (xw_4 m) ?_))
  simp only [nI_add, xw_a3]
  rw [nI_clamp (n := 4 * l + v) (by omega), nI_clamp (n := 4 * m + 3) (by omega), nI_clamp (n := 4 * m + v) (by omega), nI_clamp (n := 4 * l + 3) (by omega), nI_clamp (n := 4 * l + u) (by omega),
    nI_clamp (n := 4 * m + u) (by omega), nI_clamp (n := 4 * k + u) (by omega), nI_clamp (n := 4 * k + v) (by omega), nI_clamp (n := 4 * k + 3) (by omega),
    (hC l hl).2.2.2, (hC m hm).2.2.2, (hC k hk).2.2.2, xw_Ca hC hl (show v < 4 by omega), xw_Ca hC hm (show v < 4 by omega), xw_Ca hC hl (show u < 4 by omega), xw_Ca hC hm (show u < 4 by omega),
    xw_Ca hC hk (show u < 4 by omega), xw_Ca hC hk (show v < 4 by omega)]
  simp only [nu_mul, nu_sub]
  rw [nu_64 (by omega) (by omega), nu_64 (by omega) (by omega), nu_64 (by omega) (by omega), nu_64 (by omega) (by omega), nu_64 (by omega) (by omega), nu_64 (by omega) (by omega)]
  refine ⟨V _ (by omega), V _ (by omega), V _ (by omega), V _ (by omega), nm_e ⟨V _ (by omega), V _ (by omega), V _ (by omega), V _ (by omega), nm_e ⟨V _ (by omega), V _ (by omega), V _ (by omega), V _ (by omega),
    nm_e ⟨V _ (by omega), V _ (by omega), V _ (by omega), ?_⟩⟩⟩⟩
  simp only [nu_Lmul, nu_Lsub, nu_Ladd]
  exact h
theorem xw_fo {post : Int32 → Prop} {a b : Int} (hC : xw_C co c f) (hc : c ≤ 33) (hu : u < 3) (hv : v < 3) {p q k : Nat} (hp : p < c) (hq : q < c) (hk : k < c) (hb : ∀ j, j < c → gm_bd (f j)) (hw : ∀ j, j < c → 0 < sd_w f j)
    (hn : ¬ sh_sm (sd_x f u) (sd_x f v) (sd_w f) q p) (hhq : 0 < sh_h (sd_x f u) (sd_x f v) (sd_w f) a b p q)
    (h1 : ¬ sh_G (sd_x f u) (sd_x f v) (sd_w f) a b p q k → post 1) (h0 : sh_G (sd_x f u) (sd_x f v) (sd_w f) a b p q k → post 0) : wpX_isFartherOut post (fc, ff, pl, co, tt, st) (nI p) (nI q) (nI k) (nI u) (nI v) := by
  have B := (sd_D_bd (f := f) hu hv (hb p hp) (hb q hq) (hb k hk)).2
  have wp := hw p hp
  have eC := sh_CD (x := sd_x f u) (y := sd_x f v) (w := sd_w f) p q k
  unfold wpX_isFartherOut
  refine xw_turn hC hc hu hv hp hq hk (hb p hp) (hb q hq) (hb k hk) (br_c (fun e => ?_) (fun e => ?_))
  · have z := (nu_Leq0 (by omega) (by omega)).mp e
    rw [z, Int.mul_zero] at eC
    have F := sd_far wp hhq eC
    have G : sh_G (sd_x f u) (sd_x f v) (sd_w f) a b p q k ↔ ¬ sh_h (sd_x f u) (sd_x f v) (sd_w f) a b p q * sd_w f k < sh_h (sd_x f u) (sd_x f v) (sd_w f) a b p k * sd_w f q := by
      unfold sh_G
      omega
    refine xw_oa hC hc hu hv hp hq (hb p hp) (hb q hq) (fun d1 x1 x2 x3 x4 x5 => ?_)
    refine xw_oa hC hc hu hv hq hk (hb q hq) (hb k hk) (fun d2 y1 y2 y3 y4 y5 => ?_)
    have nz : d1 ≠ 0 := fun g => hn (sh_sm_symm (x5.mp g))
    refine br_c (fun g => ?_) (fun g => ?_)
    · have g' := (nu_ge0 (by omega) (by omega)).mp g
      have F2 := F.2 (x4.mp (by omega))
      refine br_c (fun t => h0 ?_) (fun t => h1 ?_)
      · have t' := (nu_le0 (by omega) (by omega)).mp t
        rw [G, ← F2, ← y4]; omega
      · have t' := (not_congr (nu_le0 (by omega) (by omega))).mp t
        rw [G, ← F2, ← y4]; omega
    · have g' := (not_congr (nu_ge0 (by omega) (by omega))).mp g
      have F1 := F.1 (x3.mp (by omega))
      refine br_c (fun t => h0 ?_) (fun t => h1 ?_)
      · have t' := (nu_ge0 (by omega) (by omega)).mp t
        rw [G, ← F1, ← y3]; omega
      · have t' := (not_congr (nu_ge0 (by omega) (by omega))).mp t
        rw [G, ← F1, ← y3]; omega
  · have z := (not_congr (nu_Leq0 (by omega) (by omega))).mp e
    refine br_c (fun g => h0 ?_) (fun g => h1 ?_)
    · have g' := (nu_Lge0 (by omega) (by omega)).mp g
      have := gm_pp wp (show 0 < sh_D (sd_x f u) (sd_x f v) (sd_w f) p q k by omega)
      exact .inl (by omega)
    · have g' := (not_congr (nu_Lge0 (by omega) (by omega))).mp g
      have := gm_pn wp (show sh_D (sd_x f u) (sd_x f v) (sd_w f) p q k < 0 by omega)
      unfold sh_G
      omega
theorem xw_na6 {post : Int32 → Prop} {a b : Int} (hC : xw_C co c f) (hc : c ≤ 32) (hu : u < 3) (hv : v < 3) {p : Nat} (hp : p < c) (hb : ∀ j, j < c → gm_bd (f j)) (hw : ∀ j, j < c → 0 < sd_w f j)
    (hE : ∀ j, j < c → ¬ sh_sm (sd_x f u) (sd_x f v) (sd_w f) j p → 0 < sh_h (sd_x f u) (sd_x f v) (sd_w f) a b p j)
    (h0 : (∀ j, j < c → sh_sm (sd_x f u) (sd_x f v) (sd_w f) j p) → post (nI p)) (h1 : ∀ q, sh_N (sd_x f u) (sd_x f v) (sd_w f) c p q → post (nI q)) :
    ∀ d k q : Nat, k + d = c → q < c → sd_S (sd_x f u) (sd_x f v) (sd_w f) c a b p k q → wX_nextAround_6 post (nI p) (nI u) (nI v) fc (nI c) pl co tt st (d + 1) (nI q) (nI k) := by
  intro d
  induction d with
  | zero =>
    intro k q hk hq hS
    have : k = c := by omega
    subst this
    refine br_t (nI_le (Nat.le_refl _) (by omega)) ?_
    rcases hS with ⟨e, g⟩ | ⟨g1, g2, g3⟩
    · rw [e]; exact h0 g
    · exact h1 q ⟨g1, g2, a, b, hE, g3⟩
  | succ d ih =>
    intro k q hk hq hS
    refine br_f (nI_ge (by omega) (by omega)) (xw_oa hC (by omega) hu hv (by omega) hp (hb k (by omega)) (hb p hp) (fun d1 x1 x2 x3 x4 x5 => br_c (fun e => ?_) (fun e => ?_)))
    · have s := x5.mp ((nu_eq0 (by omega) (by omega)).mp e)
      exact nm_r (nI_1 k) (ih (k + 1) q (by omega) hq (sd_S_same s hS))
    · have s : ¬ sh_sm (sd_x f u) (sd_x f v) (sd_w f) k p := fun z => e ((nu_eq0 (by omega) (by omega)).mpr (x5.mpr z))
      by_cases e2 : q = p
      · exact br_t (by rw [e2]) (nm_r (nI_1 k) (ih (k + 1) k (by omega) (by omega) (sd_S_first (by omega) s e2 hS)))
      · refine br_f (fun z => e2 ((nI_eq (by omega) (by omega)).mp z)) ?_
        have nq : ¬ sh_sm (sd_x f u) (sd_x f v) (sd_w f) q p := by
          rcases hS with ⟨z, _⟩ | ⟨_, g, _⟩
          · exact absurd z e2
          · exact g
        refine xw_fo hC (by omega) hu hv hp hq (by omega) hb hw nq (hE q hq nq) (fun g => ?_) (fun g => ?_)
        · exact br_f (by decide) (nm_r (nI_1 k) (ih (k + 1) k (by omega) (by omega) (sd_S_new hw hE (by omega) s g e2 hS)))
        · exact br_t rfl (nm_r (nI_1 k) (ih (k + 1) q (by omega) hq (sd_S_keep g e2 hS)))
theorem xw_na {post : Int32 → Prop} (hC : xw_C co c f) (hc : c ≤ 32) (hu : u < 3) (hv : v < 3) {p : Nat} (hp : p < c) (hb : ∀ j, j < c → gm_bd (f j)) (hw : ∀ j, j < c → 0 < sd_w f j)
    (hE : sh_E (sd_x f u) (sd_x f v) (sd_w f) c p)
    (h0 : (∀ j, j < c → sh_sm (sd_x f u) (sd_x f v) (sd_w f) j p) → post (nI p)) (h1 : ∀ q, sh_N (sd_x f u) (sd_x f v) (sd_w f) c p q → post (nI q)) : wpX_nextAround post (fc, nI c, pl, co, tt, st) (nI p) (nI u) (nI v) := by
  obtain ⟨a, b, hE⟩ := hE
  exact ⟨c + 1, xw_na6 hC hc hu hv hp hb hw hE h0 h1 c 0 p (by omega) hp (.inl ⟨rfl, fun j hj => by omega⟩)⟩
theorem xw_rs41 {post : Int32 → Prop} (hC : xw_C co c f) (hc : c ≤ 32) (hu : u < 3) (hv : v < 3) {s : Nat} (hs : s < c) (hb : ∀ j, j < c → gm_bd (f j)) (hw : ∀ j, j < c → 0 < sd_w f j) (hE : sh_E (sd_x f u) (sd_x f v) (sd_w f) c s)
    (h : post (nI (sd_n (sd_x f u) (sd_x f v) (sd_w f) c))) :
    ∀ (d t p : Nat) (P : Nat → Nat), t + d = c → 1 ≤ t → P 0 = s → P (t - 1) = p → (t = 1 ∨ (2 ≤ t ∧ sh_I (sd_x f u) (sd_x f v) (sd_w f) c P (t - 1))) →
      wX_roundOfShadow_41 post (nI u) (nI v) (nI s) fc (nI c) pl co tt st (d + 1) (nI p) (nI t) := by
  intro d
  induction d with
  | zero =>
    intro t p P ht h1 h0 hp hI
    have : t = c := by omega
    subst this
    refine br_t (nI_le (Nat.le_refl _) (by omega)) ?_
    have : sd_n (sd_x f u) (sd_x f v) (sd_w f) t = t := by
      rcases hI with e | ⟨e, hI⟩
      · subst e
        refine sd_one hw hs (fun j hj => ?_)
        have : j = s := by omega
        subst this; exact sh_sm_refl _
      · exact sd_full hw (by omega) hI
    rw [this] at h
    exact h
  | succ d ih =>
    intro t p P ht h1 h0 hp hI
    have pc : p < c ∧ sh_E (sd_x f u) (sd_x f v) (sd_w f) c p := by
      rcases hI with e | ⟨e, hI⟩
      · subst e
        have : p = s := by rw [← hp, ← h0]
        subst this; exact ⟨hs, hE⟩
      · rw [← hp]; exact hI.1 _ (Nat.le_refl _)
    refine br_f (nI_ge (by omega) (by omega)) (xw_na hC hc hu hv pc.1 hb hw pc.2 (fun g => ?_) (fun q g => ?_))
    · have et : t = 1 ∧ p = s := by
        rcases hI with e | ⟨e, hI⟩
        · subst e; exact ⟨rfl, by rw [← hp, ← h0]⟩
        · exfalso
          have := hI.2.1 (t - 1) (by omega) (Nat.le_refl _)
          rw [h0, hp] at this
          exact this (sh_sm_symm (g s hs))
      obtain ⟨e1, e2⟩ := et
      subst e1 e2
      refine xw_oa hC (by omega) hu hv hs hs (hb _ hs) (hb _ hs) (fun d1 x1 x2 x3 x4 x5 => br_t ((nu_eq0 (by omega) (by omega)).mpr (x5.mpr (sh_sm_refl _))) ?_)
      rw [sd_one hw hs g] at h
      exact h
    · refine xw_oa hC (by omega) hu hv g.1 hs (hb _ g.1) (hb _ hs) (fun d1 x1 x2 x3 x4 x5 => br_c (fun e => ?_) (fun e => ?_))
      · have sm := x5.mp ((nu_eq0 (by omega) (by omega)).mp e)
        rcases hI with e' | ⟨e', hI⟩
        · exfalso
          subst e'
          have : p = s := by rw [← hp, ← h0]
          subst this; exact g.2.1 sm
        · rw [← hp] at g
          rw [← h0] at sm
          have := sd_back hw (by omega) hI g sm
          rw [show t - 1 + 1 = t by omega] at this
          rw [this] at h
          exact h
      · have sm : ¬ sh_sm (sd_x f u) (sd_x f v) (sd_w f) q s := fun z => e ((nu_eq0 (by omega) (by omega)).mpr (x5.mpr z))
        refine nm_r (nI_1 t) (ih (t + 1) q (fun i => if i = t then q else P i) (by omega) (by omega) (by rw [if_neg (by omega)]; exact h0) (by rw [if_pos (by omega)]) (.inr ⟨by omega, ?_⟩))
        rw [show t + 1 - 1 = t by omega]
        rcases hI with e' | ⟨e', hI⟩
        · subst e'
          have ps : p = s := by rw [← hp, ← h0]
          subst ps
          refine sh_I1 hw ?_ ?_ ?_
          · rw [if_neg (by omega), h0]; exact hs
          · rw [if_neg (by omega), h0]; exact hE
          · rw [if_neg (by omega), if_pos rfl, h0]; exact g
        · have I2 : sh_I (sd_x f u) (sd_x f v) (sd_w f) c (fun i => if i = t then q else P i) (t - 1) := sd_I_cg (fun i hi => (if_neg (by omega)).symm) hI
          have := sh_Is (i := t - 1) hw (by omega) I2
          rw [show t - 1 + 1 = t by omega] at this
          refine this ?_ ?_
          · rw [if_neg (by omega), if_pos rfl, hp]; exact g
          · rw [if_pos rfl, if_neg (by omega), h0]; exact sm
theorem xw_rs5 {post : Int32 → Prop} (hC : xw_C co c f) (hc : c ≤ 32) (hu : u < 3) (hv : v < 3) (hb : ∀ j, j < c → gm_bd (f j)) (hw : ∀ j, j < c → 0 < sd_w f j)
    (h : post (nI (sd_n (sd_x f u) (sd_x f v) (sd_w f) c))) :
    ∀ d k s : Nat, k + d = c → 1 ≤ k → s < c → (∀ j, j < k → ¬ sd_lt (sd_x f u) (sd_x f v) (sd_w f) j s) → wX_roundOfShadow_5 post (nI u) (nI v) fc (nI c) pl co tt st (d + 1) (nI s) (nI k) := by
  intro d
  induction d with
  | zero =>
    intro k s hk h1 hs hI
    have : k = c := by omega
    subst this
    have hE : sh_E (sd_x f u) (sd_x f v) (sd_w f) k s := by
      refine sh_E_lex (fun j hj jn => ?_)
      have a := hI j hj
      unfold sd_lt at a
      unfold sh_sm at jn
      unfold sh_u
      omega
    exact br_t (nI_le (Nat.le_refl _) (by omega)) ⟨k - 1 + 1, xw_rs41 hC hc hu hv hs hb hw hE h (k - 1) 1 s (fun _ => s) (by omega) (by omega) rfl rfl (.inl rfl)⟩
  | succ d ih =>
    intro k s hk h1 hs hI
    refine br_f (nI_ge (by omega) (by omega)) (xw_oa hC (by omega) hu hv (by omega) hs (hb _ (by omega)) (hb _ hs) (fun d1 x1 x2 x3 x4 x5 => br_c (fun e => ?_) (fun e => ?_)))
    · have e' := (nu_ge0 (by omega) (by omega)).mp e
      refine nm_r (nI_1 k) (ih (k + 1) s (by omega) (by omega) hs (fun j hj => ?_))
      by_cases z : j = k
      · subst z; intro g; have := x3.mpr g; omega
      · exact hI j (by omega)
    · have e' := (not_congr (nu_ge0 (by omega) (by omega))).mp e
      have kl := x3.mp (by omega)
      refine nm_r (nI_1 k) (ih (k + 1) k (by omega) (by omega) (by omega) (fun j hj g => ?_))
      by_cases z : j = k
      · subst z
        unfold sd_lt at g
        omega
      · exact hI j (by omega) (sd_trans (hw j (by omega)) (hw k (by omega)) (hw s hs) g kl)
theorem xw_rs {post : Int32 → Prop} (hC : xw_C co c f) (hc : c ≤ 32) (h0 : c ≠ 0) (hu : u < 3) (hv : v < 3) (hb : ∀ j, j < c → gm_bd (f j)) (hw : ∀ j, j < c → 0 < sd_w f j)
    (h : post (nI (sd_n (sd_x f u) (sd_x f v) (sd_w f) c))) : wpX_roundOfShadow post (fc, nI c, pl, co, tt, st) (nI u) (nI v) := by
  refine ⟨c - 1 + 1, xw_rs5 hC hc hu hv hb hw h (c - 1) 1 0 (by omega) (by omega) (by omega) (fun j hj g => ?_)⟩
  have : j = 0 := by omega
  subst this
  unfold sd_lt at g
  omega
end
