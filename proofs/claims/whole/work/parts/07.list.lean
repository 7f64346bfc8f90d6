/-! The list of the corners in order: there is only one -/
section
def ls_L (V : gm_V → Prop) (c : Nat) (f : Nat → gm_V) : Prop :=
  (∀ i, i < c → V (f i)) ∧ (∀ i j, i < j → j < c → gm_lt (f i) (f j)) ∧ ∀ p, V p → ∃ i, i < c ∧ f i = p

theorem ls_u1 {V : gm_V → Prop} {c c' : Nat} {f f' : Nat → gm_V} (hV : ∀ p, V p → 0 < p.2.2.2) (h : ls_L V c f) (h' : ls_L V c' f') :
    ∀ i, i < c → i < c' ∧ f i = f' i := by
  obtain ⟨a, b, d⟩ := h
  obtain ⟨a', b', d'⟩ := h'
  intro i
  induction i using Nat.strongRecOn with
  | _ i ih =>
    intro hi
    obtain ⟨j, hj, ej⟩ := d' (f i) (a i hi)
    rcases Nat.lt_trichotomy j i with h | h | h
    · exfalso
      have := (ih j h (by omega)).2
      have l := b j i h hi
      rw [this, ej] at l
      exact gm_lt_asymm l l
    · subst h
      exact ⟨hj, ej.symm⟩
    · have hi' : i < c' := by omega
      obtain ⟨m, hm, em⟩ := d (f' i) (a' i hi')
      have l := b' i j h hj
      rw [ej] at l
      rcases Nat.lt_trichotomy m i with g | g | g
      · exfalso
        have k := (ih m g (by omega)).2
        have l2 := b' m i g hi'
        rw [← k, em] at l2
        exact gm_lt_asymm l2 l2
      · subst g
        exact ⟨hi', em⟩
      · exfalso
        have l2 := b i m g hm
        rw [em] at l2
        exact gm_lt_asymm l l2
theorem ls_u {V : gm_V → Prop} {c c' : Nat} {f f' : Nat → gm_V} (hV : ∀ p, V p → 0 < p.2.2.2) (h : ls_L V c f) (h' : ls_L V c' f') :
    c = c' ∧ ∀ i, i < c → f i = f' i := by
  have k := ls_u1 hV h h'
  have k' := ls_u1 hV h' h
  refine ⟨?_, fun i hi => (k i hi).2⟩
  rcases Nat.lt_trichotomy c c' with g | g | g
  · have := (k' c g).1; omega
  · exact g
  · have := (k c' g).1; omega
theorem ls_cg {V V' : gm_V → Prop} {c : Nat} {f : Nat → gm_V} (e : ∀ p, V p ↔ V' p) (h : ls_L V c f) : ls_L V' c f :=
  ⟨fun i hi => (e _).mp (h.1 i hi), h.2.1, fun p hp => h.2.2 p ((e p).mpr hp)⟩

def ls_ins (f : Nat → gm_V) (p : gm_V) (k : Nat) : Nat → gm_V := fun j => if j < k then f j else if j = k then p else f (j - 1)
theorem ls_ins_sorted {f : Nat → gm_V} {p : gm_V} {k c : Nat} (hs : ∀ i j, i < j → j < c → gm_lt (f i) (f j)) (hk : k ≤ c)
    (h1 : ∀ i, i < k → gm_lt (f i) p) (h2 : ∀ i, k ≤ i → i < c → gm_lt p (f i)) :
    ∀ i j, i < j → j < c + 1 → gm_lt (ls_ins f p k i) (ls_ins f p k j) := by
  intro i j hij hj
  unfold ls_ins
  by_cases a : i < k
  · rw [if_pos a]
    by_cases b : j < k
    · rw [if_pos b]; exact hs i j hij (by omega)
    · rw [if_neg b]
      by_cases d : j = k
      · rw [if_pos d]; exact h1 i a
      · rw [if_neg d]; exact hs i (j - 1) (by omega) (by omega)
  · rw [if_neg a]
    have b : ¬ j < k := by omega
    have d : ¬ j = k := by omega
    rw [if_neg b, if_neg d]
    by_cases e : i = k
    · rw [if_pos e]; exact h2 (j - 1) (by omega) (by omega)
    · rw [if_neg e]; exact hs (i - 1) (j - 1) (by omega) (by omega)
theorem ls_ins_mem {f : Nat → gm_V} {p : gm_V} {k c : Nat} (hk : k ≤ c) (x : gm_V) :
    (∃ i, i < c + 1 ∧ ls_ins f p k i = x) ↔ (x = p ∨ ∃ i, i < c ∧ f i = x) := by
  unfold ls_ins
  constructor
  · intro h
    obtain ⟨i, hi, e⟩ := h
    by_cases a : i < k
    · rw [if_pos a] at e; exact .inr ⟨i, by omega, e⟩
    · rw [if_neg a] at e
      by_cases b : i = k
      · rw [if_pos b] at e; exact .inl e.symm
      · rw [if_neg b] at e; exact .inr ⟨i - 1, by omega, e⟩
  · intro h
    rcases h with h | ⟨i, hi, e⟩
    · refine ⟨k, by omega, ?_⟩
      rw [if_neg (by omega), if_pos rfl]; exact h.symm
    · by_cases a : i < k
      · exact ⟨i, by omega, by rw [if_pos a]; exact e⟩
      · refine ⟨i + 1, by omega, ?_⟩
        rw [if_neg (by omega), if_neg (by omega)]
        exact e
end
