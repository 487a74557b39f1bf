/-! Reading a text, a character at a time -/
abbrev ZS := Int32 × Int32 × Int32 × Int32 × Int32
def lsO (ot na : Int32) : Int32 := if ot = 0 then na else (63 : Int32) &&& (na ^^^ (-1 : Int32))
def rgN (na : Int32) (f : Nat) : Nat → Int32
  | 0 => na
  | m + 1 => rgN na f m ||| ((1 : Int32) <<< (nI (f + m) &&& 31))
def isL (b : Nat) : Prop := 97 ≤ b ∧ b ≤ 102
/-- outside of [ and ] -/
def stepN (S : TS) (b : Nat) : Option (TS × Option ZS) :=
  if b = 46 then some (placeT S 63, none)
  else if b = 91 then some (S, some (1, 0, 0, 0, -1))
  else if b = 40 then (if S.d < 4 then some (openT S, none) else none)
  else if b = 41 then (if S.d = 0 ∨ S.pt S.d = none then none else some (closeT S, none))
  else if b = 124 then (if S.pt S.d = none then none else some (endT S, none))
  else if b = 42 ∨ b = 43 ∨ b = 63 then (match S.pt S.d with
    | none => none
    | some P => some (repT S P (decide (b = 43)) (decide (b = 63)), none))
  else if 97 ≤ b ∧ b ≤ 102 then some (placeT S ((1 : Int32) <<< (nI (b - 97) &&& 31)), none)
  else none
/-- between them; z: fresh, of others, behind a dash, named, from -/
def stepZ (S : TS) (z : ZS) (b : Nat) : Option (TS × Option ZS) :=
  if b = 94 then (if z.1 = 0 then none else some (S, some (0, 1, z.2.2.1, z.2.2.2.1, z.2.2.2.2)))
  else if b = 45 then (if z.2.2.2.2 = -1 ∨ ¬ z.2.2.1 = 0 then none else some (S, some (z.1, z.2.1, 1, z.2.2.2.1, z.2.2.2.2)))
  else if b = 93 then (if z.2.2.2.1 = 0 ∨ ¬ z.2.2.1 = 0 ∨ lsO z.2.1 z.2.2.2.1 = 0 then none else some (placeT S (lsO z.2.1 z.2.2.2.1), none))
  else if 97 ≤ b ∧ b ≤ 102 then
    (if z.2.2.1 = 0 then some (S, some (0, z.2.1, z.2.2.1, z.2.2.2.1 ||| ((1 : Int32) <<< (nI (b - 97) &&& 31)), nI (b - 97)))
    else (if nI (b - 97) < z.2.2.2.2 then none else some (S, some (0, z.2.1, 0, rgN z.2.2.2.1 z.2.2.2.2.toNatClampNeg (b - 97 + 1 - z.2.2.2.2.toNatClampNeg), -1))))
  else none
def stepT (S : TS) (z : Option ZS) (b : Nat) : Option (TS × Option ZS) := match z with
  | none => stepN S b
  | some z => stepZ S z b
/-- the rest of a text of t characters: where it is wrong, or what it comes to -/
def rdT (tp : Nat → Nat) (t : Nat) : Nat → Nat → TS → Option ZS → Nat × Option TS
  | 0, _, S, z => if z = none ∧ S.d = 0 ∧ S.pt 0 ≠ none then (t, some (endT S)) else (t, none)
  | n + 1, i, S, z => match stepT S z (tp i) with
    | none => (i, none)
    | some (S', z') => rdT tp t n (i + 1) S' z'
theorem join_q (S : TS) : (joinT S).q = S.q := (join_d S).2.1
theorem stepN_q {S S' : TS} {z' : Option ZS} {b : Nat} (h : stepN S b = some (S', z')) : S'.q ≤ S.q + 1 ∧ (∀ z, z' = some z → z.2.2.1 = 0 ∨ ∃ f, f < 6 ∧ z.2.2.2.2 = nI f) := by
  have hpl : ∀ b, (placeT S b).q = S.q + 1 := fun b => join_q _
  have hj := join_q S
  unfold stepN at h
  split at h
  · cases h; exact ⟨Nat.le_of_eq (hpl _), fun z hz => by cases hz⟩
  · split at h
    · cases h; exact ⟨by omega, fun z hz => by cases hz; exact Or.inl rfl⟩
    · split at h
      · split at h
        · cases h; exact ⟨by show S.q ≤ _; omega, fun z hz => by cases hz⟩
        · cases h
      · split at h
        · split at h
          · cases h
          · cases h
            refine ⟨?_, fun z hz => by cases hz⟩
            have : (closeT S).q = S.q := by
              show (joinT _).q = _
              rw [join_q]; exact hj
            omega
        · split at h
          · split at h
            · cases h
            · cases h
              exact ⟨by show (joinT S).q ≤ _; omega, fun z hz => by cases hz⟩
          · split at h
            · split at h
              · cases h
              · cases h; exact ⟨by show S.q ≤ _; omega, fun z hz => by cases hz⟩
            · split at h
              · cases h; exact ⟨Nat.le_of_eq (hpl _), fun z hz => by cases hz⟩
              · cases h
/-- the set's flags -/
def ZOk (z : ZS) : Prop :=
  (z.1 = 0 ∨ z.1 = 1) ∧
  (z.2.1 = 0 ∨ z.2.1 = 1) ∧
  (z.2.2.1 = 0 ∨ z.2.2.1 = 1) ∧
  (z.2.2.2.2 = -1 ∨ ∃ f, f < 6 ∧ z.2.2.2.2 = nI f) ∧
  (¬ z.2.2.1 = 0 → ¬ z.2.2.2.2 = -1)
theorem ZOk.f {z : ZS} (h_ : ZOk z) : z.1 = 0 ∨ z.1 = 1 := h_.1
theorem ZOk.o {z : ZS} (h_ : ZOk z) : z.2.1 = 0 ∨ z.2.1 = 1 := h_.2.1
theorem ZOk.d {z : ZS} (h_ : ZOk z) : z.2.2.1 = 0 ∨ z.2.2.1 = 1 := h_.2.2.1
theorem ZOk.m {z : ZS} (h_ : ZOk z) : z.2.2.2.2 = -1 ∨ ∃ f, f < 6 ∧ z.2.2.2.2 = nI f := h_.2.2.2.1
theorem ZOk.dm {z : ZS} (h_ : ZOk z) : ¬ z.2.2.1 = 0 → ¬ z.2.2.2.2 = -1 := h_.2.2.2.2

theorem stepZ_q {S S' : TS} {z : ZS} (hz : ZOk z) {z' : Option ZS} {b : Nat} (h : stepZ S z b = some (S', z')) : S'.q ≤ S.q + 1 ∧ ∀ w, z' = some w → ZOk w := by
  have hpl : ∀ b, (placeT S b).q = S.q + 1 := fun b => join_q _
  unfold stepZ at h
  split at h
  · split at h
    · cases h
    · cases h
      exact ⟨by omega, fun w hw => by cases hw; exact ⟨Or.inl rfl, Or.inr rfl, hz.d, hz.m, hz.dm⟩⟩
  · split at h
    · split at h
      · cases h
      · rename_i q
        cases h
        exact ⟨by omega, fun w hw => by cases hw; exact ⟨hz.f, hz.o, Or.inr rfl, hz.m, fun _ y => q (Or.inl y)⟩⟩
    · split at h
      · split at h
        · cases h
        · cases h; exact ⟨Nat.le_of_eq (hpl _), fun z hz => by cases hz⟩
      · split at h
        · rename_i hb
          split at h
          · rename_i hd0
            cases h
            exact ⟨by omega, fun w hw => by cases hw; exact ⟨Or.inl rfl, hz.o, hz.d, Or.inr ⟨b - 97, by omega, rfl⟩, fun y => absurd hd0 y⟩⟩
          · split at h
            · cases h
            · cases h
              exact ⟨by omega, fun w hw => by cases hw; exact ⟨Or.inl rfl, hz.o, Or.inl rfl, Or.inl rfl, fun y => absurd rfl y⟩⟩
        · cases h
theorem chr97 {b : Nat} (hb : b < 256) : (97 ≤ b → nI b - 97 = nI (b - 97)) ∧ (b < 97 → nI b - 97 < 0) := by
  constructor
  · intro h; exact pk_sub (b := 97) h
  · intro h; exact pk_sneg (b := 97) (by omega) h
theorem q_RT_isLetter {b : Nat} (hb : b < 256) {post : Int32 → Prop} (h1 : isL b → post 1) (h0 : ¬ isL b → post 0) : p_RuleText_isLetter (nI b - 97) post := by
  obtain ⟨e1, e2⟩ := chr97 hb
  unfold isL at h1 h0
  rcases Nat.lt_or_ge b 97 with z | z
  · exact ⟨fun _ => h0 (by omega), fun y => absurd (e2 z) y⟩
  · rw [e1 z]
    refine ⟨fun y => absurd y (nI_pos (by omega)), fun _ => ?_⟩
    rcases Nat.lt_or_ge b 103 with y | y
    · exact ⟨fun q => absurd q (nI_ge (b := 6) (by omega) (by omega)), fun _ => h1 (by omega)⟩
    · exact ⟨fun _ => h0 (by omega), fun q => absurd (nI_le (a := 6) (by omega) (by omega)) q⟩
theorem q_setLetter {z : ZS} (hz : ZOk z) {l : Nat} (hl : l < 6) {post : Int32 → Int32 → Int32 → Int32 → Int32 → Prop}
    (h1 : z.2.2.1 = 0 → post 1 0 z.2.2.1 (z.2.2.2.1 ||| ((1 : Int32) <<< (nI l &&& 31))) (nI l))
    (h2 : ¬ z.2.2.1 = 0 → ¬ nI l < z.2.2.2.2 → post 1 0 0 (rgN z.2.2.2.1 z.2.2.2.2.toNatClampNeg (l + 1 - z.2.2.2.2.toNatClampNeg)) (-1))
    (h0 : ¬ z.2.2.1 = 0 → nI l < z.2.2.2.2 → ∀ a b c e, post 0 a b c e) : p_LetterSet_putLetter z.2.2.1 z.2.2.2.1 z.2.2.2.2 (nI l) post := by
  refine ⟨fun hd => ?_, fun hd => h1 hd⟩
  rcases hz.m with em | ⟨f, hf, em⟩
  · exact absurd em (hz.dm hd)
  · rw [em] at h2 h0 ⊢
    rw [nI_clamp (by omega)] at h2
    have key : ∀ (d i : Nat), f ≤ i → i + d = max f (l + 1) → ∃ k, p_LetterSet_putLetter_36 (nI l) post k (nI i) 0 z.2.2.1 (rgN z.2.2.2.1 f (i - f)) (nI f) := by
      intro d
      induction d with
      | zero =>
        intro i hi he
        refine ⟨1, fun _ => ⟨fun y => h0 hd y _ _ _ _, fun y => ?_⟩, fun y => absurd (nI_lt (a := l) (b := i) ?_ (by omega)) y⟩
        · have hfl : f ≤ l := by
            rcases Nat.lt_or_ge l f with q | q
            · exact absurd (nI_lt q (by omega)) y
            · exact q
          have : i = l + 1 := by rw [Nat.max_eq_right (by omega)] at he; omega
          have hq := h2 hd y
          rw [this]
          exact hq
        · have := Nat.le_max_right f (l + 1); omega
      | succ d ih =>
        intro i hi he
        by_cases hil : l < i
        · have hm : max f (l + 1) ≤ i := Nat.max_le.mpr ⟨hi, by omega⟩
          omega
        · obtain ⟨k, hk⟩ := ih (i + 1) (by omega) (by omega)
          refine ⟨k + 1, fun y => absurd y (nI_nlt (by omega) (by omega)), fun _ => ?_⟩
          rw [nI_1]
          have e : rgN z.2.2.2.1 f (i + 1 - f) = rgN z.2.2.2.1 f (i - f) ||| ((1 : Int32) <<< (nI i &&& 31)) := by
            rw [show i + 1 - f = i - f + 1 by omega]
            show rgN z.2.2.2.1 f (i - f) ||| _ = _
            rw [show f + (i - f) = i by omega]
          rw [e] at hk
          exact hk
    obtain ⟨k, hk⟩ := key (max f (l + 1) - f) f (Nat.le_refl _) (by have := Nat.le_max_left f (l + 1); omega)
    rw [Nat.sub_self] at hk
    exact ⟨k, hk⟩
