/-! Pure rows: what the predicates of the small methods come to -/
theorem q_fill {n : Nat} (hn : n < 2 ^ 31) {x : Int32} {post : (Nat → Int32) → Prop} : ∀ (d i : Nat) (f : Nat → Int32), i + d = n → (∀ g : Nat → Int32, (∀ j, i ≤ j → j < n → g j = x) → (∀ j, j < i ∨ n ≤ j → g j = f j) → post g) → ∃ k, p_Arrays_fill_5 n x post k (nI i) (nI n) f := by
  intro d
  induction d with
  | zero =>
    intro i f hi h
    refine ⟨1, fun _ => h f (fun j h1 h2 => absurd h2 (by omega)) (fun _ _ => rfl), fun c => absurd (nI_le (a := n) (b := i) (by omega) (by omega)) c⟩
  | succ d ih =>
    intro i f hi h
    obtain ⟨k, hk⟩ := ih (i + 1) (upd f i x) (by omega) (fun g h1 h2 => h g (fun j h3 h4 => by
      by_cases hj : j = i
      · subst hj
        rw [h2 j (Or.inl (by omega)), pk_us]
      · exact h1 j (by omega) h4) (fun j hj => by
      rw [h2 j (by omega), pk_un (by omega)]))
    refine ⟨k + 1, fun c => absurd c (nI_ge (by omega) hn), fun _ => ⟨vp_in_nI (by omega) hn, ?_⟩⟩
    rw [nI_1, nI_clamp (by omega)]
    exact hk
theorem q_Arrays_fill {n : Nat} (hn : n < 2 ^ 31) {x : Int32} {f : Nat → Int32} {post : (Nat → Int32) → Prop} (h : ∀ g : Nat → Int32, (∀ j, j < n → g j = x) → (∀ j, n ≤ j → g j = f j) → post g) : p_Arrays_fill n f x post := by
  obtain ⟨k, hk⟩ := q_fill hn (post := post) n 0 f (by omega) (fun g h1 h2 => h g (fun j h3 => h1 j (Nat.zero_le _) h3) (fun j h3 => h2 j (Or.inr h3)))
  exact ⟨k, hk⟩
theorem q_isMode {x : Int32} {post : Int32 → Prop} (h1 : (x = 0 ∨ x = 1 ∨ x = 2) → post 1) (h0 : ¬ (x = 0 ∨ x = 1 ∨ x = 2) → post 0) : p_TB_isMode x post := by
  refine ⟨fun a => h0 ?_, fun a => ⟨fun b => h0 ?_, fun b => h1 ?_⟩⟩
  · rintro (rfl | rfl | rfl) <;> revert a <;> decide
  · rintro (rfl | rfl | rfl) <;> revert b <;> decide
  · obtain ⟨j, hj, rfl⟩ := nI_of a
    have : j < 3 := by
      rcases Nat.lt_or_ge j 3 with h | h
      · exact h
      · exact absurd (nI_le (a := 3) h hj) b
    match j, this with
    | 0, _ => exact Or.inl rfl
    | 1, _ => exact Or.inr (Or.inl rfl)
    | 2, _ => exact Or.inr (Or.inr rfl)
theorem q_hasState {n : Nat} {x : Int32} {post : Int32 → Prop} (h1 : ¬ x < 0 → ¬ nI n ≤ x → post 1) (h0 : (x < 0 ∨ nI n ≤ x) → post 0) : p_Machine_hasState n x post :=
  ⟨fun a => h0 (Or.inl a), fun a => ⟨fun b => h0 (Or.inr b), fun b => h1 a b⟩⟩
/-- the state behind a state and a letter; -1 if there is none such -/
def mAft (n : Nat) (fa : Nat → Int32) (x c : Int32) : Int32 := if ¬ x < 0 ∧ ¬ nI n ≤ x ∧ ¬ c < 0 ∧ ¬ 6 ≤ c then fa (x * 6 + c).toNatClampNeg else -1
def mWin (n : Nat) (fw : Nat → Int32) (x : Int32) : Int32 := if ¬ x < 0 ∧ ¬ nI n ≤ x then fw x.toNatClampNeg else -1
theorem q_in6 {n : Nat} (hn : n ≤ 512) {x c : Int32} (h1 : ¬ x < 0) (h2 : ¬ nI n ≤ x) (h3 : ¬ c < 0) (h4 : ¬ 6 ≤ c) : ∃ i j : Nat, i < n ∧ j < 6 ∧ x = nI i ∧ c = nI j ∧ x * 6 + c = nI (6 * i + j) := by
  obtain ⟨i, hi, rfl⟩ := nI_of h1
  obtain ⟨j, hj, rfl⟩ := nI_of h3
  have hi2 : i < n := by
    rcases Nat.lt_or_ge i n with h | h
    · exact h
    · exact absurd (nI_le h hi) h2
  have hj2 : j < 6 := by
    rcases Nat.lt_or_ge j 6 with h | h
    · exact h
    · exact absurd (nI_le (a := 6) h hj) h4
  refine ⟨i, j, hi2, hj2, rfl, rfl, ?_⟩
  have e : (6 : Int32) = nI 6 := rfl
  rw [e, pk_mul, nI_add, Nat.mul_comm]
theorem q_after {n : Nat} (hn : n ≤ 512) {fa : Nat → Int32} {x c : Int32} {post : Int32 → Prop} (h : post (mAft n fa x c)) : p_Machine_after n (6 * n) fa x c post := by
  refine q_hasState (fun a b => ⟨fun z => absurd z (by decide), fun _ => ⟨fun d => ?_, fun d => ⟨fun f => ?_, fun f => ?_⟩⟩⟩) (fun a => ⟨fun _ => ?_, fun z => absurd rfl z⟩)
  · rw [mAft, if_neg (by intro q; exact q.2.2.1 d)] at h; exact h
  · rw [mAft, if_neg (by intro q; exact q.2.2.2 f)] at h; exact h
  · obtain ⟨i, j, hi, hj, -, -, e⟩ := q_in6 hn a b d f
    rw [mAft, if_pos ⟨a, b, d, f⟩] at h
    refine ⟨?_, h⟩
    rw [e]
    exact vp_in_nI (by omega) (by omega)
  · rw [mAft, if_neg (by intro q; exact a.elim q.1 q.2.1)] at h; exact h
theorem q_winnerOf {n : Nat} (hn : n ≤ 512) {fw : Nat → Int32} {x : Int32} {post : Int32 → Prop} (h : post (mWin n fw x)) : p_Machine_winnerOf n fw x post := by
  refine q_hasState (fun a b => ⟨fun z => absurd z (by decide), fun _ => ?_⟩) (fun a => ⟨fun _ => ?_, fun z => absurd rfl z⟩)
  · rw [mWin, if_pos ⟨a, b⟩] at h
    obtain ⟨i, hi, rfl⟩ := nI_of a
    have hi2 : i < n := by
      rcases Nat.lt_or_ge i n with h | h
      · exact h
      · exact absurd (nI_le h hi) b
    exact ⟨vp_in_nI hi2 (by omega), h⟩
  · rw [mWin, if_neg (by intro q; exact a.elim q.1 q.2)] at h; exact h
theorem q_hasWinner {n : Nat} (hn : n ≤ 512) {fw : Nat → Int32} {x : Int32} {post : Int32 → Prop} (h : post (if mWin n fw x = -1 then 0 else 1)) : p_Machine_hasWinner n fw x post := by
  refine q_winnerOf hn ⟨fun a => ?_, fun a => ?_⟩
  · rw [if_pos a] at h; exact h
  · rw [if_neg a] at h; exact h
/-- goesOn: is there a letter behind the state -/
theorem q_goesOn2 {n : Nat} (hn : n ≤ 512) {fa : Nat → Int32} {x : Int32} {post : Int32 → Prop} (h1 : (∃ c, c < 6 ∧ mAft n fa x (nI c) ≠ -1) → post 1) (h0 : (∀ c, c < 6 → mAft n fa x (nI c) = -1) → post 0) :
    ∀ (d i : Nat), i + d = 6 → (∀ c, c < i → mAft n fa x (nI c) = -1) → ∃ k, p_Machine_goesOn_2 n (6 * n) fa x post k (nI i) := by
  intro d
  induction d with
  | zero =>
    intro i hi h
    refine ⟨1, fun _ => h0 (fun c hc => h c (by omega)), fun c => absurd (nI_le (a := 6) (by omega) (by omega)) c⟩
  | succ d ih =>
    intro i hi h
    by_cases hc : mAft n fa x (nI i) = -1
    · obtain ⟨k, hk⟩ := ih (i + 1) (by omega) (fun c hc2 => by
        by_cases e : c = i
        · rw [e]; exact hc
        · exact h c (by omega))
      refine ⟨k + 1, fun c => absurd c (nI_ge (b := 6) (by omega) (by omega)), fun _ => q_after hn ⟨fun _ => ?_, fun z => absurd hc z⟩⟩
      rw [nI_1]
      exact hk
    · exact ⟨1, fun c => absurd c (nI_ge (b := 6) (by omega) (by omega)), fun _ => q_after hn ⟨fun z => absurd z hc, fun _ => h1 ⟨i, by omega, hc⟩⟩⟩
theorem q_goesOn {n : Nat} (hn : n ≤ 512) {fa : Nat → Int32} {x : Int32} {post : Int32 → Prop} (h1 : (∃ c, c < 6 ∧ mAft n fa x (nI c) ≠ -1) → post 1) (h0 : (∀ c, c < 6 → mAft n fa x (nI c) = -1) → post 0) : p_Machine_goesOn n (6 * n) fa x post :=
  q_goesOn2 hn h1 h0 6 0 rfl (fun c hc => absurd hc (by omega))
theorem q_everWins2 {n : Nat} (hn : n ≤ 512) {fw : Nat → Int32} {x : Int32} {post : Int32 → Prop} (h1 : (∃ i, i < n ∧ fw i = x) → post 1) (h0 : (∀ i, i < n → fw i ≠ x) → post 0) :
    ∀ (d i : Nat), i + d = n → (∀ c, c < i → fw c ≠ x) → ∃ k, p_Machine_everWins_2 n fw x post k (nI i) := by
  intro d
  induction d with
  | zero =>
    intro i hi h
    refine ⟨1, fun _ => h0 (fun c hc => h c (by omega)), fun c => absurd (nI_le (a := n) (b := i) (by omega) (by omega)) c⟩
  | succ d ih =>
    intro i hi h
    have hcl : (nI i).toNatClampNeg = i := nI_clamp (by omega)
    by_cases hc : fw i = x
    · refine ⟨1, fun c => absurd c (nI_ge (b := n) (by omega) (by omega)), fun _ => ⟨vp_in_nI (by omega) (by omega), ?_, ?_⟩⟩
      · intro z
        rw [hcl] at z
        exact absurd hc z
      · intro _
        exact h1 ⟨i, by omega, hc⟩
    · obtain ⟨k, hk⟩ := ih (i + 1) (by omega) (fun c hc2 => by
        by_cases e : c = i
        · rw [e]; exact hc
        · exact h c (by omega))
      refine ⟨k + 1, fun c => absurd c (nI_ge (b := n) (by omega) (by omega)), fun _ => ⟨vp_in_nI (by omega) (by omega), ?_, ?_⟩⟩
      · intro _
        rw [nI_1]
        exact hk
      · intro z
        rw [hcl] at z
        exact absurd z hc
theorem q_everWins {n : Nat} (hn : n ≤ 512) {fw : Nat → Int32} {x : Int32} {post : Int32 → Prop} (h1 : (∃ i, i < n ∧ fw i = x) → post 1) (h0 : (∀ i, i < n → fw i ≠ x) → post 0) : p_Machine_everWins n fw x post :=
  q_everWins2 hn h1 h0 n 0 (by omega) (fun c hc => absurd hc (by omega))
