section LC2
variable {p : Program} {l : Launch} {e : Env} {R : Room} {s : State} {m : MethodId} {args : Array Value} {below : List Frame} {meth : Method} {c : Code} {H : Heap} {locs : List Loc} {cells slots : Nat} {Q : State → Prop}
variable {pc : Nat} {ls : Array Slot} {rest st0 : List Value} {a : Array Value} {A : Nat → Prop} {mc ms : Nat} {G : va_G} {K : Nat → ClassId} {X pl Mf wc : va_W}
/-- the pool is written, machines are made; the new ones lie apart -/
theorem l_calliP2 {S : Type} {post : Int32 → S → Prop} {W1 N1 P1 : S → va_W} (hr : va_Run p l e R s m args below meth c H locs cells slots mc ms (F0 m pc ls st0) rest (va_Qi post (fun u t => gB G K ((W1 u ++ N1 u) ++ P1 u) (va_A (wc ++ pl) H.size) t) (va_A (wc ++ pl) H.size) a) (va_A (wc ++ pl) H.size)) (hL : LWd G A X pl Mf H) (hS : va_S A s.heap H locs) (hA : ∀ q : Nat, s.heap.size ≤ q → A q)
    (isC : List Nat) (hC : isC.map (fun i => X[i]?) = wc.map some)
    (kk : ∀ (r : Int32) (u : S) (H1 : Heap) (locs1 : List Loc), post r u → (∀ (X' Mf' : va_W) (isR : List Nat) (N : Nat), isR.map (fun i => X'[i]?) = isR.map (fun i => X[i]?) → X.length = N → (∀ k, k < N → k ∈ isC ∨ k ∈ isR) → isC.map (fun i => X'[i]?) = (W1 u).map some → X'.map Prod.fst = X.map Prod.fst → (∀ (k : Nat) (q : Nat × va_E), Mf'[k]? = some q → (∃ j : Nat, Mf[j]? = some q) ∨ ∃ j : Nat, (N1 u)[j]? = some q) → LWd G A X' (P1 u) Mf' H1) → va_D A (N1 u) → (∀ (k : Nat) (q : Nat × va_E), (N1 u)[k]? = some q → ∀ (j : Nat) (p : Nat × va_E), Mf[j]? = some p → q.1 ≠ p.1) → va_S A s.heap H1 locs1 → W p l e R s m args below meth c H1 locs1 (cells + mc) (slots + ms) Q (F0 m (pc + 3) ls (.int r :: rest))) : W p l e R s m args below meth c H locs cells slots Q (F0 m pc ls st0) := by
  have hFc := va_freeP (cx := wc) hL.2.1 hS hA isC hC
  refine va_calli hr hS (fun q _ h => hFc q h) hFc (fun r u t H1 locs ht hvm hw hB hz1 hk1 hS' => ?_)
  obtain ⟨hP1, hK1, hD1⟩ := hB
  rw [ht] at hP1
  have hN1 := va_D_r (va_D_l hD1)
  refine kk r u H1 locs hw (fun X' Mf' isR N h1 h2 h3 h4 h5 h6 => hL.setP (fun q z => hA q (Nat.le_trans hS.1 z)) isC hC hk1 hP1 hD1 h1 h2 h3 h4 h5 h6) ⟨hN1.1, fun k q hq => hFc _ (hN1.2 k q hq)⟩ (fun k q hq j p hp e => ?_) hS'
  obtain ⟨hP, hD, hM, hJ⟩ := hL
  rcases hN1.2 k q hq with ⟨i, e', z⟩ | z
  · rcases gapp z with z | ⟨i2, z, -⟩
    · obtain ⟨i3, -, h2⟩ := g_at hC i (q.1, e') z
      exact hJ j p hp i3 (q.1, e') (gappL h2) e
    · exact hJ j p hp _ (q.1, e') (gappR z) e
  · have := (hM j p hp).lt
    omega
end LC2
theorem A1_sw {P : Nat → Prop} {am : Nat → Nat} {M x : Nat} (h : ∀ k, k < 3 → P (am k)) (hx : P x) : ∀ k, k < 3 → P (sw am M x k) := by
  intro k hk
  by_cases c : k = M
  · rw [c, sw_s]; exact hx
  · rw [sw_n c]; exact h k hk
theorem A2_sw {am aa aw n : Nat → Nat} {D : Nat → Md} {Gm sN : Nat → Nat → Nat} (h : (∀ i j, i < 3 → j < 3 → am i = am j → aa i = aa j ∧ aw i = aw j ∧ D i = D j ∧ Gm i = Gm j ∧ n i = n j ∧ sN i = sN j)) {M x xa xw n' : Nat} {D' : Md} {g' s' : Nat → Nat} (hx : ∀ j, j < 3 → x ≠ am j ∧ x ≠ aw j ∧ x ≠ aa j) :
    (∀ i j, i < 3 → j < 3 → sw am M x i = sw am M x j → sw aa M xa i = sw aa M xa j ∧ sw aw M xw i = sw aw M xw j ∧ sw D M D' i = sw D M D' j ∧ sw Gm M g' i = sw Gm M g' j ∧ sw n M n' i = sw n M n' j ∧ sw sN M s' i = sw sN M s' j) := by
  intro i j hi hj e
  by_cases a : i = M <;> by_cases b : j = M
  · rw [a, b]; exact ⟨rfl, rfl, rfl, rfl, rfl, rfl⟩
  · rw [a, sw_s, sw_n b] at e; exact absurd e (hx j hj).1
  · rw [b, sw_s, sw_n a] at e; exact absurd e.symm (hx i hi).1
  · rw [sw_n a, sw_n b] at e
    rw [sw_n a, sw_n b, sw_n a, sw_n b, sw_n a, sw_n b, sw_n a, sw_n b, sw_n a, sw_n b, sw_n a, sw_n b]
    exact h i j hi hj e
theorem A3_sw {am aa aw : Nat → Nat} (h : (∀ i j, i < 3 → j < 3 → am i ≠ aw j ∧ am i ≠ aa j)) {M x xa xw : Nat} (hx : ∀ j, j < 3 → x ≠ am j ∧ x ≠ aw j ∧ x ≠ aa j) (hw : ∀ j, j < 3 → xw ≠ am j ∧ xw ≠ aw j ∧ xw ≠ aa j) (ha : ∀ j, j < 3 → xa ≠ am j ∧ xa ≠ aw j ∧ xa ≠ aa j) (h1 : x ≠ xw) (h2 : x ≠ xa) :
    (∀ i j, i < 3 → j < 3 → sw am M x i ≠ sw aw M xw j ∧ sw am M x i ≠ sw aa M xa j) := by
  intro i j hi hj
  by_cases a : i = M <;> by_cases b : j = M
  · rw [a, b, sw_s, sw_s, sw_s]; exact ⟨h1, h2⟩
  · rw [a, sw_s, sw_n b, sw_n b]; exact (hx j hj).2
  · rw [b, sw_s, sw_s, sw_n a]; exact ⟨fun e => (hw i hi).1 e.symm, fun e => (ha i hi).1 e.symm⟩
  · rw [sw_n a, sw_n b, sw_n b]; exact h i j hi hj
theorem MF_new {K : Nat → ClassId} {am aw aa : Nat → Nat} {n : Nat → Nat} {fa fw : Nat → Nat → Int32} {gap kn : Nat → Int32} {N : va_W} (hN : ∀ (k : Nat) (q : Nat × va_E), N[k]? = some q → ∀ (j : Nat) (p : Nat × va_E), (MF K am aw aa n fa fw gap kn)[j]? = some p → q.1 ≠ p.1) {k x : Nat} {e : va_E} (hk : N[k]? = some (x, e)) : ∀ j, j < 3 → x ≠ am j ∧ x ≠ aw j ∧ x ≠ aa j := by
  intro j hj
  obtain ⟨⟨i1, h1⟩, ⟨i2, h2⟩, ⟨i3, h3⟩⟩ := MF_at (K := K) (am := am) (aw := aw) (aa := aa) (n := n) (fa := fa) (fw := fw) (gap := gap) (kn := kn) hj
  exact ⟨hN k _ hk i1 _ h1, hN k _ hk i2 _ h2, hN k _ hk i3 _ h3⟩
theorem MF_sw {K : Nat → ClassId} {am aw aa : Nat → Nat} {n : Nat → Nat} {fa fw : Nat → Nat → Int32} {gap kn : Nat → Int32} {M x xa xw n' : Nat} {fa' fw' : Nat → Int32} {g y : Int32} :
    ∀ (k : Nat) (q : Nat × va_E), (MF K (sw am M x) (sw aw M xw) (sw aa M xa) (sw n M n') (sw fa M fa') (sw fw M fw') (sw gap M g) (sw kn M y))[k]? = some q → (∃ j : Nat, (MF K am aw aa n fa fw gap kn)[j]? = some q) ∨ ∃ j : Nat, ([(xa, .inl (K 0, n' * 6, .inl fa')), (xw, .inl (K 0, n', .inl fw')), (x, .inr (4, [.ref xa, .ref xw, .int g, .int y]))] : va_W)[j]? = some q := by
  intro k q hq
  obtain ⟨j, hj, e⟩ := MF_in ⟨k, hq⟩
  by_cases c : j = M
  · right
    rw [c] at e
    simp only [sw_s] at e
    rcases e with e | e | e
    · exact ⟨2, by rw [e]; rfl⟩
    · exact ⟨1, by rw [e]; rfl⟩
    · exact ⟨0, by rw [e, Nat.mul_comm 6 n']; rfl⟩
  · left
    simp only [sw_n c] at e
    rcases e with e | e | e
    · rw [e]; exact (MF_at hj).1
    · rw [e]; exact (MF_at hj).2.1
    · rw [e]; exact (MF_at hj).2.2
