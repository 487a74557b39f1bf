/-! The stream, apart from both programs -/
def SS : Type := (Nat) × (Nat) × (Nat → Nat) × (Int32) × (Nat) × (Nat → Nat) × (Nat) × (Nat → Int32 × Int32 × Int32 × Int32)
def SS.mk (M : Nat) (k : Nat) (kp : Nat → Nat) (ca : Int32) (p : Nat) (lt : Nat → Nat) (t : Nat) (tk : Nat → Int32 × Int32 × Int32 × Int32) : SS := (M, k, kp, ca, p, lt, t, tk)
def SS.M : SS → Nat := fun (x : (Nat) × (Nat) × (Nat → Nat) × (Int32) × (Nat) × (Nat → Nat) × (Nat) × (Nat → Int32 × Int32 × Int32 × Int32)) => x.1
def SS.k : SS → Nat := fun (x : (Nat) × (Nat) × (Nat → Nat) × (Int32) × (Nat) × (Nat → Nat) × (Nat) × (Nat → Int32 × Int32 × Int32 × Int32)) => x.2.1
def SS.kp : SS → (Nat → Nat) := fun (x : (Nat) × (Nat) × (Nat → Nat) × (Int32) × (Nat) × (Nat → Nat) × (Nat) × (Nat → Int32 × Int32 × Int32 × Int32)) => x.2.2.1
def SS.ca : SS → Int32 := fun (x : (Nat) × (Nat) × (Nat → Nat) × (Int32) × (Nat) × (Nat → Nat) × (Nat) × (Nat → Int32 × Int32 × Int32 × Int32)) => x.2.2.2.1
def SS.p : SS → Nat := fun (x : (Nat) × (Nat) × (Nat → Nat) × (Int32) × (Nat) × (Nat → Nat) × (Nat) × (Nat → Int32 × Int32 × Int32 × Int32)) => x.2.2.2.2.1
def SS.lt : SS → (Nat → Nat) := fun (x : (Nat) × (Nat) × (Nat → Nat) × (Int32) × (Nat) × (Nat → Nat) × (Nat) × (Nat → Int32 × Int32 × Int32 × Int32)) => x.2.2.2.2.2.1
def SS.t : SS → Nat := fun (x : (Nat) × (Nat) × (Nat → Nat) × (Int32) × (Nat) × (Nat → Nat) × (Nat) × (Nat → Int32 × Int32 × Int32 × Int32)) => x.2.2.2.2.2.2.1
def SS.tk : SS → (Nat → Int32 × Int32 × Int32 × Int32) := fun (x : (Nat) × (Nat) × (Nat → Nat) × (Int32) × (Nat) × (Nat → Nat) × (Nat) × (Nat → Int32 × Int32 × Int32 × Int32)) => x.2.2.2.2.2.2.2

def SS.Ok (S : SS) : Prop :=
  (S.M < 3) ∧
  (S.k ≤ 5) ∧
  (∀ j, j < S.k → S.kp j < 3) ∧
  (S.p ≤ 48) ∧
  (∀ j, j < S.p → S.lt j < 6) ∧
  (S.t + S.p ≤ 71)
theorem SS.Ok.M {S : SS} (h_ : SS.Ok S) : S.M < 3 := h_.1
theorem SS.Ok.k {S : SS} (h_ : SS.Ok S) : S.k ≤ 5 := h_.2.1
theorem SS.Ok.kp {S : SS} (h_ : SS.Ok S) : ∀ j, j < S.k → S.kp j < 3 := h_.2.2.1
theorem SS.Ok.p {S : SS} (h_ : SS.Ok S) : S.p ≤ 48 := h_.2.2.2.1
theorem SS.Ok.lt {S : SS} (h_ : SS.Ok S) : ∀ j, j < S.p → S.lt j < 6 := h_.2.2.2.2.1
theorem SS.Ok.tp {S : SS} (h_ : SS.Ok S) : S.t + S.p ≤ 71 := h_.2.2.2.2.2

/-- behind the first l letters -/
def ru (A : Auto) (lt : Nat → Nat) : Nat → Option Nat
  | 0 => some 0
  | l + 1 => mst (trn A) (ru A lt l) (lt l)
def wO (A : Auto) : Option Nat → Int32
  | none => -1
  | some k => A.wn k
def wv (A : Auto) (lt : Nat → Nat) (l : Nat) : Int32 := wO A (ru A lt l)
def over (A : Auto) (lt : Nat → Nat) (l : Nat) : Prop := ∀ c, c < 6 → mst (trn A) (ru A lt l) c = none
def lw (A : Auto) (lt : Nat → Nat) : Nat → Nat
  | 0 => 0
  | l + 1 => if wv A lt (l + 1) = -1 then lw A lt l else l + 1
def lr (A : Auto) (lt : Nat → Nat) : Nat → Int32
  | 0 => -1
  | l + 1 => if wv A lt (l + 1) = -1 then lr A lt l else wv A lt (l + 1)
theorem lw_le {A : Auto} {lt : Nat → Nat} : ∀ l, lw A lt l ≤ l := by
  intro l
  induction l with
  | zero => exact Nat.le_refl _
  | succ l ih => unfold lw; split <;> omega
/-- a cut is due, and L letters have been looked at -/
def Due (A : Auto) (en : Prop) (p : Nat) (lt : Nat → Nat) (L : Nat) : Prop := 1 ≤ L ∧ L ≤ p ∧ (∀ l, 1 ≤ l → l < L → ¬ over A lt l) ∧ (over A lt L ∨ (L = p ∧ (p = 48 ∨ en)))
def NoDue (A : Auto) (en : Prop) (p : Nat) (lt : Nat → Nat) : Prop := (∀ l, 1 ≤ l → l ≤ p → ¬ over A lt l) ∧ p ≠ 48 ∧ ¬ (en ∧ 0 < p)
theorem Due.uniq {A : Auto} {en : Prop} {p : Nat} {lt : Nat → Nat} {L L' : Nat} (h : Due A en p lt L) (h' : Due A en p lt L') : L = L' := by
  obtain ⟨a1, a2, a3, a4⟩ := h
  obtain ⟨b1, b2, b3, b4⟩ := h'
  rcases Nat.lt_trichotomy L L' with z | z | z
  · rcases a4 with y | ⟨y, -⟩
    · exact absurd y (b3 L a1 z)
    · omega
  · exact z
  · rcases b4 with y | ⟨y, -⟩
    · exact absurd y (a3 L' b1 z)
    · omega
theorem NoDue.not {A : Auto} {en : Prop} {p : Nat} {lt : Nat → Nat} {L : Nat} (h : NoDue A en p lt) : ¬ Due A en p lt L := by
  rintro ⟨a1, a2, a3, a4⟩
  obtain ⟨b1, b2, b3⟩ := h
  rcases a4 with y | ⟨y, z⟩
  · exact b1 L a1 a2 y
  · rcases z with z | z
    · exact b2 z
    · exact b3 ⟨z, by omega⟩
/-- what an action does to mode and kept modes -/
def actF (a : Nat) (M k : Nat) (kp : Nat → Nat) : Nat × Nat × (Nat → Nat) :=
  if a = 0 then (M, k, kp) else if a = 4 then (if k = 0 then (M, k, kp) else (kp (k - 1), k - 1, kp)) else (if 5 ≤ k then (M, k, kp) else (a - 1, k + 1, updN kp k M))
def cutF (Am : Nat → Auto) (ac : Nat → Nat) (S : SS) (L : Nat) : SS :=
  let A := Am S.M
  let sz := max (lw A S.lt L) 1
  let r := lr A S.lt L
  let m := actF (if r = -1 then 0 else ac r.toNatClampNeg) S.M S.k S.kp
  SS.mk m.1 m.2.1 m.2.2 S.ca (S.p - sz) (fun j => S.lt (j + sz)) (S.t + 1) (fun i => if i = S.t then (r, S.ca - nI S.p, nI sz, nI S.M) else S.tk i)
/-- all cuts that are due -/
noncomputable def cutsF (Am : Nat → Auto) (ac : Nat → Nat) (en : Prop) : Nat → SS → SS
  | 0, S => S
  | n + 1, S => @dite SS (∃ L, Due (Am S.M) en S.p S.lt L) (Classical.propDecidable _) (fun h => cutsF Am ac en n (cutF Am ac S (Classical.choose h))) (fun _ => S)
theorem cutsF_due {Am : Nat → Auto} {ac : Nat → Nat} {en : Prop} {n : Nat} {S : SS} {L : Nat} (h : Due (Am S.M) en S.p S.lt L) : cutsF Am ac en (n + 1) S = cutsF Am ac en n (cutF Am ac S L) := by
  have hx : ∃ L, Due (Am S.M) en S.p S.lt L := ⟨L, h⟩
  unfold cutsF
  rw [dif_pos hx, (Classical.choose_spec hx).uniq h]
  cases n <;> rfl
theorem cutsF_no {Am : Nat → Auto} {ac : Nat → Nat} {en : Prop} {n : Nat} {S : SS} (h : NoDue (Am S.M) en S.p S.lt) : cutsF Am ac en n S = S := by
  cases n with
  | zero => rfl
  | succ n =>
    unfold cutsF
    rw [dif_neg (fun ⟨L, hL⟩ => h.not hL)]
theorem actF_ok {a M k : Nat} {kp : Nat → Nat} (ha : a ≤ 4) (hM : M < 3) (hk : k ≤ 5) (hkp : ∀ j, j < k → kp j < 3) : (actF a M k kp).1 < 3 ∧ (actF a M k kp).2.1 ≤ 5 ∧ ∀ j, j < (actF a M k kp).2.1 → (actF a M k kp).2.2 j < 3 := by
  unfold actF
  split
  · exact ⟨hM, hk, hkp⟩
  · split
    · split
      · exact ⟨hM, hk, hkp⟩
      · exact ⟨hkp _ (by omega), by show k - 1 ≤ 5; omega, fun j hj => hkp j (by have : j < k - 1 := hj; omega)⟩
    · split
      · exact ⟨hM, hk, hkp⟩
      · refine ⟨by show a - 1 < 3; omega, by show k + 1 ≤ 5; omega, fun j hj => ?_⟩
        have hj : j < k + 1 := hj
        show updN kp k M j < 3
        by_cases e : j = k
        · subst e; rw [updN_s]; exact hM
        · rw [updN_n e]; exact hkp j (by omega)
theorem cutF_ok {Am : Nat → Auto} {ac : Nat → Nat} (hac : ∀ r, ac r ≤ 4) {S : SS} (h : S.Ok) {en : Prop} {L : Nat} (hL : Due (Am S.M) en S.p S.lt L) : (cutF Am ac S L).Ok ∧ (cutF Am ac S L).p + 1 ≤ S.p := by
  have hlw := @lw_le (Am S.M) S.lt L
  obtain ⟨l1, l2, -, -⟩ := hL
  have hsz : max (lw (Am S.M) S.lt L) 1 ≤ S.p ∧ 1 ≤ max (lw (Am S.M) S.lt L) 1 := ⟨Nat.max_le.mpr ⟨by omega, by omega⟩, Nat.le_max_right _ _⟩
  obtain ⟨m1, m2, m3⟩ := actF_ok (a := if lr (Am S.M) S.lt L = -1 then 0 else ac (lr (Am S.M) S.lt L).toNatClampNeg) (by
    split
    · omega
    · exact hac _) h.M h.k h.kp
  have hp := h.p
  have htp := h.tp
  refine ⟨⟨m1, m2, m3, ?_, fun j hj => ?_, ?_⟩, ?_⟩
  · show S.p - _ ≤ 48; omega
  · have hj : j < S.p - max (lw (Am S.M) S.lt L) 1 := hj
    exact h.lt _ (by omega)
  · show S.t + 1 + (S.p - max (lw (Am S.M) S.lt L) 1) ≤ 71; omega
  · show S.p - max (lw (Am S.M) S.lt L) 1 + 1 ≤ S.p; omega
theorem cutsF_end {Am : Nat → Auto} {ac : Nat → Nat} (hac : ∀ r, ac r ≤ 4) {en : Prop} : ∀ (n : Nat) (S : SS), S.Ok → S.p ≤ n → (cutsF Am ac en n S).Ok ∧ NoDue (Am (cutsF Am ac en n S).M) en (cutsF Am ac en n S).p (cutsF Am ac en n S).lt := by
  intro n
  induction n with
  | zero =>
    intro S h hp
    refine ⟨h, fun l h1 h2 => ?_, ?_, fun z => ?_⟩
    · have : l ≤ S.p := h2
      omega
    · show S.p ≠ 48; omega
    · have : 0 < S.p := z.2
      omega
  | succ n ih =>
    intro S h hp
    by_cases hx : ∃ L, Due (Am S.M) en S.p S.lt L
    · obtain ⟨L, hL⟩ := hx
      rw [cutsF_due hL]
      obtain ⟨h1, h2⟩ := cutF_ok hac h hL
      exact ih _ h1 (by omega)
    · have hno : NoDue (Am S.M) en S.p S.lt := by
        refine ⟨fun l h1 h2 hov => ?_, fun hp48 => ?_, fun z => ?_⟩
        · obtain ⟨L, hL, hmin⟩ := pk_least (fun l => 1 ≤ l ∧ over (Am S.M) S.lt l) ⟨l, h1, hov⟩
          have hLl : L ≤ l := by
            rcases Nat.lt_or_ge l L with y | y
            · exact absurd ⟨h1, hov⟩ (hmin l y)
            · exact y
          exact hx ⟨L, hL.1, by omega, fun l' a b c => hmin l' b ⟨a, c⟩, Or.inl hL.2⟩
        · by_cases hov : ∃ l, 1 ≤ l ∧ l ≤ S.p ∧ over (Am S.M) S.lt l
          · obtain ⟨l, h1, h2, h3⟩ := hov
            obtain ⟨L, hL, hmin⟩ := pk_least (fun l => 1 ≤ l ∧ over (Am S.M) S.lt l) ⟨l, h1, h3⟩
            have hLl : L ≤ l := by
              rcases Nat.lt_or_ge l L with y | y
              · exact absurd ⟨h1, h3⟩ (hmin l y)
              · exact y
            exact hx ⟨L, hL.1, by omega, fun l' a b c => hmin l' b ⟨a, c⟩, Or.inl hL.2⟩
          · exact hx ⟨S.p, by omega, Nat.le_refl _, fun l a b c => hov ⟨l, a, by omega, c⟩, Or.inr ⟨rfl, Or.inl hp48⟩⟩
        · by_cases hov : ∃ l, 1 ≤ l ∧ l ≤ S.p ∧ over (Am S.M) S.lt l
          · obtain ⟨l, h1, h2, h3⟩ := hov
            obtain ⟨L, hL, hmin⟩ := pk_least (fun l => 1 ≤ l ∧ over (Am S.M) S.lt l) ⟨l, h1, h3⟩
            have hLl : L ≤ l := by
              rcases Nat.lt_or_ge l L with y | y
              · exact absurd ⟨h1, h3⟩ (hmin l y)
              · exact y
            exact hx ⟨L, hL.1, by omega, fun l' a b c => hmin l' b ⟨a, c⟩, Or.inl hL.2⟩
          · exact hx ⟨S.p, by omega, Nat.le_refl _, fun l a b c => hov ⟨l, a, by omega, c⟩, Or.inr ⟨rfl, Or.inr z.1⟩⟩
      rw [cutsF_no hno]
      exact ⟨h, hno⟩
/-- a letter comes -/
def pushF (S : SS) (c : Nat) : SS := SS.mk S.M S.k S.kp (S.ca + 1) (S.p + 1) (updN S.lt S.p c) S.t S.tk
theorem pushF_ok {S : SS} (h : S.Ok) (hp : S.p < 48) (ht : S.t < 24) {c : Nat} (hc : c < 6) : (pushF S c).Ok := by
  refine ⟨h.M, h.k, h.kp, by show S.p + 1 ≤ 48; omega, fun j hj => ?_, by show S.t + (S.p + 1) ≤ 71; omega⟩
  have hj : j < S.p + 1 := hj
  show updN S.lt S.p c j < 6
  by_cases e : j = S.p
  · subst e; rw [updN_s]; exact hc
  · rw [updN_n e]; exact h.lt j (by omega)
/-- letters of a word, one by one, as far as they are taken -/
noncomputable def feedF (Am : Nat → Auto) (ac : Nat → Nat) (wd : Nat → Nat) (n : Nat) : Nat → Nat → SS → Nat × SS
  | 0, k, S => (k, S)
  | d + 1, k, S => if n ≤ k ∨ 24 ≤ S.t then (k, S) else feedF Am ac wd n d (k + 1) (cutsF Am ac False 48 (pushF S (wd k)))
theorem ru_congr {A : Auto} {lt lt' : Nat → Nat} : ∀ l, (∀ j, j < l → lt j = lt' j) → ru A lt l = ru A lt' l := by
  intro l
  induction l with
  | zero => intro _; rfl
  | succ l ih =>
    intro h
    unfold ru
    rw [ih (fun j hj => h j (by omega)), h l (by omega)]
theorem ru_oin {A : Auto} (hA : A.Ok) {lt : Nat → Nat} : ∀ l, (∀ j, j < l → lt j < 6) → oin A.N (ru A lt l) := by
  intro l
  induction l with
  | zero => intro _; exact hA.pos
  | succ l ih => intro h; exact trn_oin hA (ih (fun j hj => h j (by omega))) (h l (by omega))
