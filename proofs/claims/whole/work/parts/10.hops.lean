/-! Steps from neighbour to neighbour -/
section
def hp_R (N : Nat → Nat → Prop) (c k : Nat) : Nat → Nat → Prop
  | 0 => fun v => v = k
  | t + 1 => fun v => hp_R N c k t v ∨ ∃ u, u < c ∧ hp_R N c k t u ∧ N u v
/-- exactly t steps away -/
def hp_D (N : Nat → Nat → Prop) (c k t v : Nat) : Prop := hp_R N c k t v ∧ ∀ s, s < t → ¬ hp_R N c k s v
variable {N : Nat → Nat → Prop} {c k : Nat}
theorem hp_up {t v : Nat} (h : hp_R N c k t v) : ∀ d, hp_R N c k (t + d) v := by
  intro d
  induction d with
  | zero => exact h
  | succ d ih => exact .inl ih
theorem hp_mono {t t' v : Nat} (h : hp_R N c k t v) (ht : t ≤ t') : hp_R N c k t' v := by
  have := hp_up h (t' - t)
  rwa [Nat.add_sub_cancel' ht] at this
theorem hp_ex : ∀ {t v : Nat}, hp_R N c k t v → ∃ d, d ≤ t ∧ hp_D N c k d v := by
  intro t
  induction t using Nat.strongRecOn with
  | _ t ih =>
    intro v h
    by_cases hx : ∃ s, s < t ∧ hp_R N c k s v
    · obtain ⟨s, hs, hr⟩ := hx
      obtain ⟨d, hd, h2⟩ := ih s hs hr
      exact ⟨d, by omega, h2⟩
    · exact ⟨t, Nat.le_refl _, h, fun s hs hr => hx ⟨s, hs, hr⟩⟩
theorem hp_Du {s t v : Nat} (h1 : hp_D N c k s v) (h2 : hp_D N c k t v) : s = t := by
  rcases Nat.lt_trichotomy s t with g | g | g
  · exact absurd h1.1 (h2.2 s g)
  · exact g
  · exact absurd h2.1 (h1.2 t g)
theorem hp_D0 {v : Nat} (h : hp_D N c k 0 v) : v = k := h.1
theorem hp_Dk : hp_D N c k 0 k := ⟨rfl, fun s hs => by omega⟩
theorem hp_Ds {t v : Nat} (h : hp_D N c k (t + 1) v) : ∃ u, u < c ∧ hp_D N c k t u ∧ N u v := by
  obtain ⟨h1, h2⟩ := h
  rcases h1 with h1 | ⟨u, hu, hr, hn⟩
  · exact absurd h1 (h2 t (by omega))
  · refine ⟨u, hu, ⟨hr, fun s hs hr2 => ?_⟩, hn⟩
    exact h2 (s + 1) (by omega) (.inr ⟨u, hu, hr2, hn⟩)
theorem hp_Dn {t u v : Nat} (hu : u < c) (h : hp_D N c k t u) (hn : N u v) : ∃ d, d ≤ t + 1 ∧ hp_D N c k d v :=
  hp_ex (t := t + 1) (.inr ⟨u, hu, h.1, hn⟩)
theorem hp_chain : ∀ (t v : Nat), v < c → hp_D N c k t v → ∃ g : Nat → Nat, ∀ s, s ≤ t → g s < c ∧ hp_D N c k s (g s) := by
  intro t
  induction t with
  | zero => intro v hv h; exact ⟨fun _ => v, fun s hs => by have : s = 0 := by omega
                                                            subst this; exact ⟨hv, h⟩⟩
  | succ t ih =>
    intro v hv h
    obtain ⟨u, hu, hd, _⟩ := hp_Ds h
    obtain ⟨g, hg⟩ := ih u hu hd
    refine ⟨fun s => if s = t + 1 then v else g s, fun s hs => ?_⟩
    by_cases e : s = t + 1
    · subst e; dsimp only; rw [if_pos rfl]; exact ⟨hv, h⟩
    · dsimp only; rw [if_neg e]; exact hg s (by omega)
theorem hp_bound {t v : Nat} (hv : v < c) (h : hp_D N c k t v) : t < c := by
  obtain ⟨g, hg⟩ := hp_chain t v hv h
  have := gm_pigeon c (t + 1) g (fun i hi => (hg i (by omega)).1) (fun i j hij hj e => by
    have a := (hg i (by omega)).2
    have b := (hg j (by omega)).2
    rw [e] at a
    have := hp_Du a b
    omega)
  omega
theorem hp_conn {l : Nat} (mu : Nat → Nat) (h : ∀ v, v < c → v ≠ l → ∃ u, u < c ∧ N v u ∧ mu u < mu v) :
    ∀ (m v t : Nat), v < c → hp_R N c k t v → mu v ≤ m → ∃ t', hp_R N c k t' l := by
  intro m
  induction m with
  | zero =>
    intro v t hv hr hm
    by_cases e : v = l
    · subst e; exact ⟨t, hr⟩
    · obtain ⟨u, hu, hn, hl⟩ := h v hv e
      omega
  | succ m ih =>
    intro v t hv hr hm
    by_cases e : v = l
    · subst e; exact ⟨t, hr⟩
    · obtain ⟨u, hu, hn, hl⟩ := h v hv e
      exact ih u (t + 1) hu (.inr ⟨v, hv, hr, hn⟩) (by omega)
end
