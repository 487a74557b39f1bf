/-- all machines that are that one -/
def gUp (am : Nat → Nat) (M : Nat) (g : Nat → Int32) (x : Int32) : Nat → Int32 := fun k => if am k = am M then x else g k
theorem va_D_one {A : Nat → Prop} {a : Nat} {e : va_E} (h : A a) : va_D A [(a, e)] := by
  refine ⟨fun i j p q hi hj _ => ?_, fun k q hq => ?_⟩
  · have h1 := (List.getElem?_eq_some_iff.mp hi).1
    have h2 := (List.getElem?_eq_some_iff.mp hj).1
    simp at h1 h2
    omega
  · have : q ∈ [(a, e)] := List.mem_of_getElem? hq
    rw [List.mem_singleton] at this
    rw [this]; exact h
theorem MF_in {K : Nat → ClassId} {am aw aa : Nat → Nat} {n : Nat → Nat} {fa fw : Nat → Nat → Int32} {gap kn : Nat → Int32} {q : Nat × va_E} (h : ∃ k : Nat, (MF K am aw aa n fa fw gap kn)[k]? = some q) : ∃ j, j < 3 ∧ (q = (am j, .inr (4, [.ref (aa j), .ref (aw j), .int (gap j), .int (kn j)])) ∨ q = (aw j, .inl (K 0, n j, .inl (fw j))) ∨ q = (aa j, .inl (K 0, 6 * n j, .inl (fa j)))) := by
  obtain ⟨k, hk⟩ := h
  have hm := List.mem_of_getElem? hk
  unfold MF at hm
  simp only [List.mem_cons, List.not_mem_nil, or_false] at hm
  rcases hm with e | e | e | e | e | e | e | e | e
  · exact ⟨0, by omega, Or.inl e⟩
  · exact ⟨0, by omega, Or.inr (Or.inl e)⟩
  · exact ⟨0, by omega, Or.inr (Or.inr e)⟩
  · exact ⟨1, by omega, Or.inl e⟩
  · exact ⟨1, by omega, Or.inr (Or.inl e)⟩
  · exact ⟨1, by omega, Or.inr (Or.inr e)⟩
  · exact ⟨2, by omega, Or.inl e⟩
  · exact ⟨2, by omega, Or.inr (Or.inl e)⟩
  · exact ⟨2, by omega, Or.inr (Or.inr e)⟩
theorem MF_at {K : Nat → ClassId} {am aw aa : Nat → Nat} {n : Nat → Nat} {fa fw : Nat → Nat → Int32} {gap kn : Nat → Int32} {j : Nat} (hj : j < 3) : (∃ k : Nat, (MF K am aw aa n fa fw gap kn)[k]? = some (am j, .inr (4, [.ref (aa j), .ref (aw j), .int (gap j), .int (kn j)]))) ∧ (∃ k : Nat, (MF K am aw aa n fa fw gap kn)[k]? = some (aw j, .inl (K 0, n j, .inl (fw j)))) ∧ ∃ k : Nat, (MF K am aw aa n fa fw gap kn)[k]? = some (aa j, .inl (K 0, 6 * n j, .inl (fa j))) := by
  rcases (by omega : j = 0 ∨ j = 1 ∨ j = 2) with e | e | e <;> subst e
  · exact ⟨⟨0, rfl⟩, ⟨1, rfl⟩, ⟨2, rfl⟩⟩
  · exact ⟨⟨3, rfl⟩, ⟨4, rfl⟩, ⟨5, rfl⟩⟩
  · exact ⟨⟨6, rfl⟩, ⟨7, rfl⟩, ⟨8, rfl⟩⟩
theorem MF_upd {K : Nat → ClassId} {am aw aa : Nat → Nat} {n : Nat → Nat} {fa fw : Nat → Nat → Int32} {gap kn : Nat → Int32} {M : Nat} (hM : M < 3) {x y : Int32} (h2 : ∀ i j, i < 3 → j < 3 → am i = am j → aa i = aa j ∧ aw i = aw j) (h3 : ∀ i j, i < 3 → j < 3 → am i ≠ aw j ∧ am i ≠ aa j) :
    ∀ (k : Nat) (q : Nat × va_E), (MF K am aw aa n fa fw (gUp am M gap x) (gUp am M kn y))[k]? = some q → q = (am M, .inr (4, [.ref (aa M), .ref (aw M), .int x, .int y])) ∨ (q.1 ≠ am M ∧ ∃ j : Nat, (MF K am aw aa n fa fw gap kn)[j]? = some q) := by
  intro k q hq
  obtain ⟨j, hj, e | e | e⟩ := MF_in ⟨k, hq⟩
  · by_cases c : am j = am M
    · left
      rw [e, c, (h2 j M hj hM c).1, (h2 j M hj hM c).2]
      unfold gUp
      rw [if_pos c, if_pos c]
    · right
      have e1 : gUp am M gap x j = gap j := if_neg c
      have e2 : gUp am M kn y j = kn j := if_neg c
      rw [e1, e2] at e
      rw [e]
      exact ⟨c, (MF_at hj).1⟩
  · right
    rw [e]
    exact ⟨fun z => (h3 M j hM hj).1 z.symm, (MF_at hj).2.1⟩
  · right
    rw [e]
    exact ⟨fun z => (h3 M j hM hj).2 z.symm, (MF_at hj).2.2⟩
theorem WB.gup {D : Nat → Md} {Gm : Nat → Nat → Nat} {n : Nat → Nat} {sN : Nat → Nat → Nat} {fa fw : Nat → Nat → Int32} {gap kn : Nat → Int32} {R : Nat} {ac : Nat → Nat} {moc aoc many lts be mo ao fs ls : Nat → Int32} (h : WB D Gm n sN fa fw gap kn R ac moc aoc many lts be mo ao fs ls) {am : Nat → Nat} {M : Nat} (hM : M < 3) {x y : Int32} (h2 : ∀ i j, i < 3 → j < 3 → am i = am j → D i = D j ∧ Gm i = Gm j ∧ n i = n j ∧ sN i = sN j) (hg : WG (D M).au (Gm M) (n M) (sN M) x y) : WB D Gm n sN fa fw (gUp am M gap x) (gUp am M kn y) R ac moc aoc many lts be mo ao fs ls := by
  refine ⟨h.T, h.hMa, h.lab, h.hac, h.haoc, h.hao, h.hmo, fun k hk => ?_⟩
  by_cases c : am k = am M
  · obtain ⟨e1, e2, e3, e4⟩ := h2 k M hk hM c
    have q1 : gUp am M gap x k = x := if_pos c
    have q2 : gUp am M kn y k = y := if_pos c
    rw [q1, q2, e1, e2, e3, e4]
    exact hg
  · have q1 : gUp am M gap x k = gap k := if_neg c
    have q2 : gUp am M kn y k = kn k := if_neg c
    rw [q1, q2]
    exact h.hg k hk
/-- what is read of a machine lies apart from what is written of it -/
theorem LWd.jM {G : va_G} {A : Nat → Prop} {X pl : va_W} {K : Nat → ClassId} {am aw aa : Nat → Nat} {n : Nat → Nat} {fa fw : Nat → Nat → Int32} {gap kn : Nat → Int32} {H : Heap} (h : LWd G A X pl (MF K am aw aa n fa fw gap kn) H) {M : Nat} (hM : M < 3) (h3 : ∀ i j, i < 3 → j < 3 → am i ≠ aw j ∧ am i ≠ aa j) {rc : va_W} (isK : List Nat) (hK : isK.map (fun i => X[i]?) = rc.map some) {e0 : va_E} : gJ [(am M, e0)] (rc ++ [(aw M, .inl (K 0, n M, .inl (fw M))), (aa M, .inl (K 0, 6 * n M, .inl (fa M)))]) := by
  intro k q hq j p hp
  have hp' : p ∈ [(am M, e0)] := List.mem_of_getElem? hp
  rw [List.mem_singleton] at hp'
  rw [hp']
  obtain ⟨k0, hk0⟩ := (MF_at (K := K) (am := am) (aw := aw) (aa := aa) (n := n) (fa := fa) (fw := fw) (gap := gap) (kn := kn) hM).1
  rcases gapp hq with hq | ⟨i, hq, -⟩
  · obtain ⟨i, -, hi⟩ := g_at hK k q hq
    exact fun z => h.2.2.2 k0 _ hk0 i q (gappL hi) z.symm
  · have hq' := List.mem_of_getElem? hq
    simp only [List.mem_cons, List.not_mem_nil, or_false] at hq'
    rcases hq' with e | e
    · rw [e]; exact (h3 M M hM hM).1
    · rw [e]; exact (h3 M M hM hM).2
/-- what a call reads lies apart from the pool, too -/
theorem LWd.jP {G : va_G} {A : Nat → Prop} {X pl Mf : va_W} {H : Heap} (h : LWd G A X pl Mf H) {wc rc : va_W} (isC isK : List Nat) (hC : isC.map (fun i => X[i]?) = wc.map some) (hK : isK.map (fun i => (X ++ Mf)[i]?) = rc.map some) (hdis : ∀ i ∈ isK, i ∉ isC) : gJ (wc ++ pl) rc := by
  intro k q hq j p hp
  rcases gapp hp with hp | ⟨j2, hp, -⟩
  · exact h.j isC isK hC hK hdis k q hq j p hp
  · obtain ⟨i', hi', h2⟩ := g_at hK k q hq
    rcases gapp h2 with h2 | ⟨j3, h2, -⟩
    · exact fun e => va_D_x h.2.1 h2 hp e.symm
    · exact h.2.2.2 j3 q h2 _ p (gappR hp)
