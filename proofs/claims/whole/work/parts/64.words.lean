/-! Two machines: ties between their states -/
def oc : Option Nat → Int32
  | none => -1
  | some s => nI s
def oN : Option Nat → Nat
  | none => 0
  | some s => s + 1
def mst (tr : Nat → Nat → Option Nat) : Option Nat → Nat → Option Nat
  | none, _ => none
  | some h, c => tr h c
def mrun (tr : Nat → Nat → Option Nat) (o : Option Nat) (w : List Nat) : Option Nat := w.foldl (mst tr) o
def mw (w : Nat → Prop) : Option Nat → Prop
  | none => False
  | some h => w h
def oin (n : Nat) : Option Nat → Prop
  | none => True
  | some h => h < n
theorem oc_node {n : Nat} (hn : n ≤ 512) {o : Option Nat} (h : oin n o) : oc o + 1 = nI (oN o) ∧ oN o ≤ 512 := by
  cases o with
  | none => exact ⟨m1_1, Nat.zero_le _⟩
  | some s =>
    have hs : s < n := h
    exact ⟨nI_1 s, by show s + 1 ≤ 512; omega⟩
/-- ties: rho leads each node to its leader; T ties so far, made by pairs that PR knows -/
def UF (T : Nat) (ld : Nat → Int32) (lN rho rk : Nat → Nat) (PR : (Nat → Prop) → Prop) : Prop :=
  (∀ x, x < 1026 → ld x = nI (lN x) ∧ lN x < 1026) ∧
  (∀ x, x < 1026 → rho x < 1026 ∧ lN (rho x) = rho x) ∧
  (∀ x, x < 1026 → rho (lN x) = rho x) ∧
  (∀ x, x < 1026 → lN x = x → rho x = x) ∧
  (∀ x, x < 1026 → lN x ≠ x → rk x < rk (lN x)) ∧
  (∀ x, x < 1026 → rk x ≤ T) ∧
  (sumF (fun x => if lN x = x then 1 else 0) 1026 + T = 1026) ∧
  (∀ φ, PR φ → ∀ x y, x < 1026 → y < 1026 → rho x = rho y → (φ x ↔ φ y))
theorem UF.ld {T : Nat} {ld : Nat → Int32} {lN rho rk : Nat → Nat} {PR : (Nat → Prop) → Prop} (h_ : UF T ld lN rho rk PR) : ∀ x, x < 1026 → ld x = nI (lN x) ∧ lN x < 1026 := h_.1
theorem UF.r1 {T : Nat} {ld : Nat → Int32} {lN rho rk : Nat → Nat} {PR : (Nat → Prop) → Prop} (h_ : UF T ld lN rho rk PR) : ∀ x, x < 1026 → rho x < 1026 ∧ lN (rho x) = rho x := h_.2.1
theorem UF.r2 {T : Nat} {ld : Nat → Int32} {lN rho rk : Nat → Nat} {PR : (Nat → Prop) → Prop} (h_ : UF T ld lN rho rk PR) : ∀ x, x < 1026 → rho (lN x) = rho x := h_.2.2.1
theorem UF.r3 {T : Nat} {ld : Nat → Int32} {lN rho rk : Nat → Nat} {PR : (Nat → Prop) → Prop} (h_ : UF T ld lN rho rk PR) : ∀ x, x < 1026 → lN x = x → rho x = x := h_.2.2.2.1
theorem UF.rr {T : Nat} {ld : Nat → Int32} {lN rho rk : Nat → Nat} {PR : (Nat → Prop) → Prop} (h_ : UF T ld lN rho rk PR) : ∀ x, x < 1026 → lN x ≠ x → rk x < rk (lN x) := h_.2.2.2.2.1
theorem UF.rb {T : Nat} {ld : Nat → Int32} {lN rho rk : Nat → Nat} {PR : (Nat → Prop) → Prop} (h_ : UF T ld lN rho rk PR) : ∀ x, x < 1026 → rk x ≤ T := h_.2.2.2.2.2.1
theorem UF.cn {T : Nat} {ld : Nat → Int32} {lN rho rk : Nat → Nat} {PR : (Nat → Prop) → Prop} (h_ : UF T ld lN rho rk PR) : sumF (fun x => if lN x = x then 1 else 0) 1026 + T = 1026 := h_.2.2.2.2.2.2.1
theorem UF.cl {T : Nat} {ld : Nat → Int32} {lN rho rk : Nat → Nat} {PR : (Nat → Prop) → Prop} (h_ : UF T ld lN rho rk PR) : ∀ φ, PR φ → ∀ x y, x < 1026 → y < 1026 → rho x = rho y → (φ x ↔ φ y) := h_.2.2.2.2.2.2.2

theorem UF.lt {T : Nat} {ld : Nat → Int32} {lN rho rk : Nat → Nat} {PR : (Nat → Prop) → Prop} (h : UF T ld lN rho rk PR) : T < 1026 := by
  have hc := h.cn
  have h1 := h.r1 0 (by omega)
  rcases Nat.eq_zero_or_pos (sumF (fun x => if lN x = x then 1 else 0) 1026) with z | z
  · have := sum_0 _ z (rho 0) h1.1
    try dsimp only at this
    rw [if_pos h1.2] at this
    omega
  · omega
theorem q_leaderOf {T : Nat} {ld : Nat → Int32} {lN rho rk : Nat → Nat} {PR : (Nat → Prop) → Prop} (h : UF T ld lN rho rk PR) {x : Nat} (hx : x < 1026) {post : Int32 → (Nat → Int32) → Prop}
    (hp : ∀ ld' lN', UF T ld' lN' rho rk PR → (∀ r, r < 1026 → (lN' r = r ↔ lN r = r)) → post (nI (rho x)) ld') : p_Comparison_leaderOf ld (nI x) post := by
  have hT := h.lt
  have key : ∀ (d : Nat) (a st : Nat) (ld' : Nat → Int32) (lN' : Nat → Nat), UF T ld' lN' rho rk PR → (∀ r, r < 1026 → (lN' r = r ↔ lN r = r)) → a < 1026 → rho a = rho x → st ≤ rk a → T ≤ rk a + d → ∃ k, p_Comparison_leaderOf_4 post k (nI a) (nI st) ld' := by
    intro d
    induction d using Nat.strongRecOn with
    | ind d ih =>
      intro a st ld' lN' hU hr ha hrho hst hd
      have hb := hU.rb a ha
      obtain ⟨e1, e2⟩ := hU.ld a ha
      have ha6 : vp_in (nI a) 1026 := vp_in_nI ha (by omega)
      by_cases e : lN' a = a
      · refine ⟨1, fun z => absurd z (nI_ge (b := 1026) (by omega) (by omega)), fun _ => ⟨ha6, ?_⟩⟩
        rw [nI_clamp (n := a) (by omega), e1, e]
        refine ⟨fun _ => ?_, fun z => absurd rfl z⟩
        have := hU.r3 a ha e
        rw [← this, hrho]
        exact hp ld' lN' hU hr
      · obtain ⟨f1, f2⟩ := hU.ld _ e2
        have hrk := hU.rr a ha e
        -- two steps at a time
        have hup : rk (lN' a) ≤ rk (lN' (lN' a)) := by
          by_cases q : lN' (lN' a) = lN' a
          · rw [q]; exact Nat.le_refl _
          · exact Nat.le_of_lt (hU.rr _ e2 q)
        have hne : lN' (lN' a) ≠ a := fun q => by rw [q] at hup; omega
        have hU2 : UF T (upd ld' a (nI (lN' (lN' a)))) (updN lN' a (lN' (lN' a))) rho rk PR := by
          refine ⟨fun y hy => ?_, fun y hy => ?_, fun y hy => ?_, fun y hy q => ?_, fun y hy q => ?_, hU.rb, ?_, hU.cl⟩
          · by_cases q : y = a
            · subst q; rw [pk_us, updN_s]; exact ⟨rfl, f2⟩
            · rw [pk_un q, updN_n q]; exact hU.ld y hy
          · obtain ⟨g1, g2⟩ := hU.r1 y hy
            refine ⟨g1, ?_⟩
            rw [updN_n (fun q => by rw [q] at g2; exact e g2)]; exact g2
          · by_cases q : y = a
            · subst q; rw [updN_s, hU.r2 _ e2, hU.r2 _ hy]
            · rw [updN_n q]; exact hU.r2 y hy
          · by_cases q2 : y = a
            · subst q2; rw [updN_s] at q; exact absurd q hne
            · rw [updN_n q2] at q; exact hU.r3 y hy q
          · by_cases q2 : y = a
            · subst q2; rw [updN_s]; omega
            · rw [updN_n q2] at q ⊢; exact hU.rr y hy q
          · rw [sum_congr 1026 (f := fun x => if updN lN' a (lN' (lN' a)) x = x then 1 else 0) (g := fun x => if lN' x = x then 1 else 0) (fun y hy => by
              try dsimp only
              by_cases q : y = a
              · subst q; rw [updN_s, if_neg hne, if_neg e]
              · rw [updN_n q])]
            exact hU.cn
        obtain ⟨k, hk⟩ := ih (d - 1) (by
          have := hU.rb _ e2
          omega) (lN' (lN' a)) (st + 1) _ _ hU2 (fun r hr2 => by
          by_cases q : r = a
          · subst q; rw [updN_s, ← hr r hr2]
            exact ⟨fun z => absurd z hne, fun z => absurd z e⟩
          · rw [updN_n q]; exact hr r hr2) f2 (by rw [hU.r2 _ e2, hU.r2 _ ha, hrho]) (by omega) (by have := hU.rb _ e2; omega)
        refine ⟨k + 1, fun z => absurd z (nI_ge (b := 1026) (by omega) (by omega)), fun _ => ⟨ha6, ?_⟩⟩
        rw [nI_clamp (n := a) (by omega), e1, nI_clamp (n := lN' a) (by omega), f1, pk_us, nI_1]
        exact ⟨fun z => absurd ((nI_eq (by omega) (by omega)).mp z) e, fun _ => ⟨ha6, vp_in_nI e2 (by omega), ha6, ha6, hk⟩⟩
  obtain ⟨k, hk⟩ := key T x 0 ld lN h (fun _ _ => Iff.rfl) hx rfl (Nat.zero_le _) (by omega)
  exact ⟨k, hk⟩
theorem q_tie {T : Nat} {ld : Nat → Int32} {lN rho rk : Nat → Nat} {PR PR' : (Nat → Prop) → Prop} (h : UF T ld lN rho rk PR) {a b : Nat} (ha : a < 1026) (hb : b < 1026) (hPR : ∀ φ, PR' φ → PR φ ∧ (φ a ↔ φ b)) {post : Int32 → (Nat → Int32) → Prop}
    (h0 : rho a = rho b → ∀ ld' lN', UF T ld' lN' rho rk PR → post 0 ld') (h1 : rho a ≠ rho b → ∀ ld' lN' rho' rk', UF (T + 1) ld' lN' rho' rk' PR' → post 1 ld') : p_Comparison_tie ld (nI a) (nI b) post := by
  refine q_leaderOf h ha (fun ld1 lN1 U1 _ => q_leaderOf U1 hb (fun ld2 lN2 U2 _ => ?_))
  obtain ⟨a1, a2⟩ := U2.r1 a ha
  obtain ⟨b1, b2⟩ := U2.r1 b hb
  rw [nI_clamp (n := rho a) (by omega)]
  refine ⟨vp_in_nI a1 (by omega), fun z => ?_, fun z => ?_⟩
  · have e := (nI_eq (by omega) (by omega)).mp z
    refine h0 e _ lN2 ⟨fun y hy => ?_, U2.r1, U2.r2, U2.r3, U2.rr, U2.rb, U2.cn, U2.cl⟩
    by_cases q : y = rho a
    · rw [q, pk_us, ← e, a2]; exact ⟨rfl, a1⟩
    · rw [pk_un q]; exact U2.ld y hy
  · have e : rho a ≠ rho b := fun q => z (by rw [q])
    refine h1 e _ (updN lN2 (rho a) (rho b)) (fun x => if rho x = rho a then rho b else rho x) (updN rk (rho b) (max (rk (rho b)) (rk (rho a) + 1))) ⟨fun y hy => ?_, fun y hy => ?_, fun y hy => ?_, fun y hy q => ?_, fun y hy q => ?_, fun y hy => ?_, ?_, fun φ hφ x y hx hy q => ?_⟩
    · by_cases q : y = rho a
      · rw [q, pk_us, updN_s]; exact ⟨rfl, b1⟩
      · rw [pk_un q, updN_n q]; exact U2.ld y hy
    · try dsimp only
      split
      · exact ⟨b1, by rw [updN_n (fun q => e q.symm)]; exact b2⟩
      · rename_i q
        obtain ⟨c1, c2⟩ := U2.r1 y hy
        exact ⟨c1, by rw [updN_n q]; exact c2⟩
    · try dsimp only
      by_cases q : y = rho a
      · rw [q, updN_s]
        have hra : rho (rho a) = rho a := U2.r3 _ a1 a2
        have hrb : rho (rho b) = rho b := U2.r3 _ b1 b2
        rw [hra, hrb, if_pos rfl, if_neg (fun q => e q.symm)]
      · rw [updN_n q, U2.r2 y hy]
    · by_cases q2 : y = rho a
      · rw [q2, updN_s] at q; exact absurd q.symm e
      · rw [updN_n q2] at q
        have := U2.r3 y hy q
        try dsimp only
        rw [this, if_neg q2]
    · by_cases q2 : y = rho a
      · rw [q2, updN_s, updN_s, updN_n e]
        exact Nat.lt_of_lt_of_le (Nat.lt_succ_self _) (Nat.le_max_right _ _)
      · rw [updN_n q2] at q ⊢
        have := U2.rr y hy q
        have hy2 : y ≠ rho b := fun z => by rw [z] at q; exact q b2
        rw [updN_n hy2]
        by_cases q3 : lN2 y = rho b
        · rw [q3, updN_s]; rw [q3] at this
          exact Nat.lt_of_lt_of_le this (Nat.le_max_left _ _)
        · rw [updN_n q3]; exact this
    · by_cases q : y = rho b
      · rw [q, updN_s]
        have h1 := U2.rb _ b1
        have h2 := U2.rb _ a1
        exact Nat.max_le.mpr ⟨by omega, by omega⟩
      · rw [updN_n q]; have := U2.rb y hy; omega
    · have := @sum_upd (fun x => if lN2 x = x then 1 else 0) (fun x => if updN lN2 (rho a) (rho b) x = x then 1 else 0) (rho a) 1026 a1 (fun y hy => by rw [updN_n hy])
      try dsimp only at this
      rw [if_pos a2, updN_s, if_neg (fun q => e q.symm)] at this
      have hc := U2.cn
      omega
    · obtain ⟨p1, p2⟩ := hPR φ hφ
      have hcl := U2.cl φ p1
      have toA : ∀ x, x < 1026 → rho x = rho a → (φ x ↔ φ b) := fun x hx q => (hcl x a hx ha q).trans p2
      try dsimp only at q
      by_cases q1 : rho x = rho a <;> by_cases q2 : rho y = rho a
      · exact hcl x y hx hy (q1.trans q2.symm)
      · rw [if_pos q1, if_neg q2] at q
        exact (toA x hx q1).trans (hcl b y hb hy q)
      · rw [if_neg q1, if_pos q2] at q
        exact (hcl x b hx hb q).trans (toA y hy q2).symm
      · rw [if_neg q1, if_neg q2] at q
        exact hcl x y hx hy q
/-! Words by number: shorter ones first, then as in a book -/
def cd (w : List Nat) : Nat := w.foldl (fun t c => 6 * t + c + 1) 0
theorem cd_snoc (w : List Nat) (c : Nat) : cd (w ++ [c]) = 6 * cd w + c + 1 := by
  unfold cd; rw [List.foldl_append]; rfl
theorem ext_mono : ∀ (v : List Nat) (t t' : Nat), t < t' → v.foldl (fun t c => 6 * t + c + 1) t < v.foldl (fun t c => 6 * t + c + 1) t' := by
  intro v
  induction v with
  | nil => intro t t' h; exact h
  | cons c v ih => intro t t' h; exact ih _ _ (show 6 * t + c + 1 < 6 * t' + c + 1 by omega)
theorem ext_ge : ∀ (v : List Nat) (t : Nat), t ≤ v.foldl (fun t c => 6 * t + c + 1) t := by
  intro v
  induction v with
  | nil => intro t; exact Nat.le_refl _
  | cons c v ih => intro t; exact Nat.le_trans (by omega) (ih (6 * t + c + 1))
theorem cd_app (w v : List Nat) : cd (w ++ v) = v.foldl (fun t c => 6 * t + c + 1) (cd w) := by
  unfold cd; rw [List.foldl_append]
theorem cd_mono {w w' : List Nat} (v : List Nat) (h : cd w < cd w') : cd (w ++ v) < cd (w' ++ v) := by
  rw [cd_app, cd_app]; exact ext_mono v _ _ h
def cl6 : Nat → Nat
  | 0 => 0
  | n + 1 => 6 * cl6 n + 1
theorem cd_len : ∀ (n : Nat) (w : List Nat), w.length = n → W6 w → cl6 n ≤ cd w ∧ cd w < cl6 (n + 1) := by
  intro n
  induction n with
  | zero =>
    intro w h _
    have : w = [] := List.length_eq_zero_iff.mp h
    subst this
    exact ⟨Nat.le_refl _, by decide⟩
  | succ n ih =>
    intro w h hw
    obtain ⟨v, c, rfl⟩ : ∃ v c, w = v ++ [c] := by
      have hne : w ≠ [] := fun e => by subst e; simp at h
      exact ⟨w.dropLast, w.getLast hne, (List.dropLast_concat_getLast hne).symm⟩
    rw [List.length_append] at h
    simp at h
    obtain ⟨h1, h2⟩ := ih v h (fun c hc => hw c (List.mem_append_left _ hc))
    have hc : c < 6 := hw c (List.mem_append_right _ (List.mem_singleton.mpr rfl))
    rw [cd_snoc]
    have e1 : cl6 (n + 1) = 6 * cl6 n + 1 := rfl
    have e2 : cl6 (n + 1 + 1) = 6 * cl6 (n + 1) + 1 := rfl
    omega
theorem cl6_mono : ∀ d n, cl6 n ≤ cl6 (n + d) := by
  intro d
  induction d with
  | zero => intro n; exact Nat.le_refl _
  | succ d ih =>
    intro n
    have := ih n
    have e : cl6 (n + d + 1) = 6 * cl6 (n + d) + 1 := rfl
    show cl6 n ≤ cl6 (n + d + 1)
    omega
theorem cd_shorter {w w' : List Nat} (hw : W6 w) (hw' : W6 w') (h : w.length < w'.length) : cd w < cd w' := by
  have h1 := (cd_len _ w rfl hw).2
  have h2 := (cd_len _ w' rfl hw').1
  have h3 := cl6_mono (w'.length - (w.length + 1)) (w.length + 1)
  rw [show w.length + 1 + (w'.length - (w.length + 1)) = w'.length by omega] at h3
  omega
theorem cd_inj : ∀ (n : Nat) (w w' : List Nat), w.length = n → w'.length = n → W6 w → W6 w' → cd w = cd w' → w = w' := by
  intro n
  induction n with
  | zero =>
    intro w w' h h' _ _ _
    rw [List.length_eq_zero_iff.mp h, List.length_eq_zero_iff.mp h']
  | succ n ih =>
    intro w w' h h' hw hw' e
    have spl : ∀ w : List Nat, w.length = n + 1 → ∃ v c, w = v ++ [c] := fun w h => by
      have hne : w ≠ [] := fun e => by subst e; simp at h
      exact ⟨w.dropLast, w.getLast hne, (List.dropLast_concat_getLast hne).symm⟩
    obtain ⟨v, c, rfl⟩ := spl w h
    obtain ⟨v', c', rfl⟩ := spl w' h'
    rw [List.length_append] at h h'
    simp at h h'
    rw [cd_snoc, cd_snoc] at e
    have hc : c < 6 := hw c (List.mem_append_right _ (List.mem_singleton.mpr rfl))
    have hc' : c' < 6 := hw' c' (List.mem_append_right _ (List.mem_singleton.mpr rfl))
    rw [show c = c' by omega, ih v v' h h' (fun c hc => hw c (List.mem_append_left _ hc)) (fun c hc => hw' c (List.mem_append_left _ hc)) (by omega)]
