/-! Labels that are numbered by first occurrence: one partition has one such numbering -/
def Canon (N : Nat) (g : Nat → Nat) (cnt : Nat) (s : Nat → Nat) : Prop := (∀ k, k < cnt → s k < N ∧ g (s k) = k ∧ ∀ i, i < s k → g i < k) ∧ ∀ i, i < N → g i < cnt
theorem Canon.uniq {N cnt cnt' : Nat} {g g' s s' : Nat → Nat} (h : Canon N g cnt s) (h' : Canon N g' cnt' s') (he : ∀ i j, i < N → j < N → (g i = g j ↔ g' i = g' j)) : (∀ i, i < N → g i = g' i) ∧ cnt = cnt' := by
  have key : ∀ n i, i < n → i < N → g i = g' i := by
    intro n
    induction n with
    | zero => intro i hi; omega
    | succ n ih =>
      intro i hi hN
      by_cases hin : i < n
      · exact ih i hin hN
      have hi' : i = n := by omega
      subst hi'
      obtain ⟨a1, a2, a3⟩ := h.1 (g i) (h.2 i hN)
      obtain ⟨b1, b2, b3⟩ := h'.1 (g' i) (h'.2 i hN)
      have la : s (g i) ≤ i := by
        rcases Nat.lt_or_ge i (s (g i)) with z | z
        · have := a3 i z; omega
        · exact z
      have lb : s' (g' i) ≤ i := by
        rcases Nat.lt_or_ge i (s' (g' i)) with z | z
        · have := b3 i z; omega
        · exact z
      by_cases ea : s (g i) < i
      · have e1 := ih _ ea a1
        have e2 := (he (s (g i)) i a1 hN).mp a2
        omega
      by_cases eb : s' (g' i) < i
      · have e1 := ih _ eb b1
        have e2 := (he (s' (g' i)) i b1 hN).mpr b2
        omega
      have ea' : s (g i) = i := by omega
      have eb' : s' (g' i) = i := by omega
      rcases Nat.lt_trichotomy (g i) (g' i) with z | z | z
      · have hk : g i < cnt' := Nat.lt_trans z (h'.2 i hN)
        obtain ⟨c1, c2, c3⟩ := h'.1 (g i) hk
        have lc : s' (g i) ≤ i := by
          rcases Nat.lt_or_ge i (s' (g i)) with y | y
          · have := c3 i y; omega
          · exact y
        have nc : s' (g i) ≠ i := fun q => by rw [q] at c2; omega
        have e1 := ih (s' (g i)) (by omega) c1
        have e2 := a3 (s' (g i)) (by rw [ea']; omega)
        omega
      · exact z
      · have hk : g' i < cnt := Nat.lt_trans z (h.2 i hN)
        obtain ⟨c1, c2, c3⟩ := h.1 (g' i) hk
        have lc : s (g' i) ≤ i := by
          rcases Nat.lt_or_ge i (s (g' i)) with y | y
          · have := c3 i y; omega
          · exact y
        have nc : s (g' i) ≠ i := fun q => by rw [q] at c2; omega
        have e1 := ih (s (g' i)) (by omega) c1
        have e2 := b3 (s (g' i)) (by rw [eb']; omega)
        omega
  have key2 : ∀ i, i < N → g i = g' i := fun i hi => key (i + 1) i (Nat.lt_succ_self i) hi
  refine ⟨key2, ?_⟩
  rcases Nat.lt_trichotomy cnt cnt' with z | z | z
  · obtain ⟨c1, c2, -⟩ := h'.1 cnt z
    have := h.2 _ c1
    have := key2 _ c1
    omega
  · exact z
  · obtain ⟨c1, c2, -⟩ := h.1 cnt' z
    have := h'.2 _ c1
    have := key2 _ c1
    omega
/-- the samples are the first nodes of their labels -/
theorem Canon.first {N cnt : Nat} {g s : Nat → Nat} (h : Canon N g cnt s) {i : Nat} (hi : i < N) : s (g i) ≤ i := by
  obtain ⟨a1, a2, a3⟩ := h.1 (g i) (h.2 i hi)
  rcases Nat.lt_or_ge i (s (g i)) with z | z
  · have := a3 i z; omega
  · exact z
theorem Canon.samples {N cnt : Nat} {g s g' s' : Nat → Nat} (h : Canon N g cnt s) (h' : Canon N g' cnt s') (he : ∀ i, i < N → g i = g' i) {k : Nat} (hk : k < cnt) : s k = s' k := by
  obtain ⟨a1, a2, a3⟩ := h.1 k hk
  obtain ⟨b1, b2, b3⟩ := h'.1 k hk
  rcases Nat.lt_trichotomy (s k) (s' k) with z | z | z
  · have := b3 _ z; have := he _ a1; omega
  · exact z
  · have := a3 _ z; have := he _ b1; omega
