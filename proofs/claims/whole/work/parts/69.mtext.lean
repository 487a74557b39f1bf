/-! The reference's reader: its steps -/
theorem q_join {q : Nat} (hq : q ≤ 24) {rb : Nat → Int32} {x y : Int32} {post : (Nat → Int32) → Prop} (h : ∀ g, (∀ p, p < q → g p = linkF q x y rb p) → post g) : p_M_join (nI q) rb x y post := by
  refine pk_loop (fun n i g => p_M_join_2 (nI q) x y post n (nI i) g) (fun i g => (∀ p, p < i → g p = linkF q x y rb p) ∧ ∀ p, i ≤ p → g p = rb p) q 0 rb (Nat.zero_le _) ⟨fun p hp => absurd hp (Nat.not_lt_zero _), fun p _ => rfl⟩ ?_ ?_
  · intro n g hI
    exact ⟨fun _ => h g hI.1, fun z => absurd (nI_le (Nat.le_refl _) (by omega)) z⟩
  · intro n i g hi hI hk
    refine ⟨fun z => absurd z (nI_ge hi (by omega)), fun _ => ?_⟩
    have hiv : vp_in (nI i) 24 := vp_in_nI (by omega) (by omega)
    rw [nI_clamp (n := i) (by omega), nI_1]
    refine ⟨fun z => hk g ⟨fun p hp => ?_, fun p h1 => hI.2 p (by omega)⟩, fun z => ⟨hiv, hiv, hk _ ⟨fun p hp => ?_, fun p h1 => ?_⟩⟩⟩
    · by_cases e : p = i
      · subst e
        rw [hI.2 p (Nat.le_refl _)]
        unfold linkF
        rw [if_neg]
        rw [tb_t1 x (by omega)] at z
        exact fun w => z w.2
      · exact hI.1 p (by omega)
    · by_cases e : p = i
      · subst e
        rw [pk_us, hI.2 p (Nat.le_refl _)]
        unfold linkF
        rw [if_pos]
        rw [tb_t1 x (by omega)] at z
        exact ⟨hi, z⟩
      · rw [pk_un e]; exact hI.1 p (by omega)
    · rw [pk_un (by omega)]; exact hI.2 p (by omega)
theorem q_settleA {rd dp : Int32} {d : Nat} (hv : vp_in dp 6) (hd : dp.toNatClampNeg = d) {hp rl pf rb rf re pl pe : Nat → Int32} (hh : ¬ hp d = 0) {post : (Nat → Int32) → (Nat → Int32) → (Nat → Int32) → (Nat → Int32) → (Nat → Int32) → Prop}
    (K : p_M_join rd rb (rl d) (pf d) (fun u1 => post (upd hp d 0) (upd rl d (pl d ||| (if pe d = 0 then 0 else rl d))) u1 (upd rf d (rf d ||| (if re d = 0 then 0 else pf d))) (upd re d (if re d = 0 ∨ pe d = 0 then 0 else 1)))) : p_M_settle rd dp hp rl pf rb rf re pl pe post := by
  unfold p_M_settle
  rw [hd]
  by_cases h1 : re d = 0 <;> by_cases h2 : pe d = 0 <;> simp only [h1, h2, if_true, if_false, or_true, true_or, or_self] at K <;> simp only [hv, hh, h1, h2, nar0, nar1, true_and, not_false_eq_true, not_true_eq_false, true_implies, false_implies, and_true] <;> exact K
/-- row e as the reference holds it, once a group is under way above it -/
def rowE (S : TS) (e : Nat) : Pc := match S.pt e with
  | none => S.sq e
  | some P => thenP (S.sq e) P
/-- links that the reference has made and that the program makes later -/
def Pend (S : TS) (p x : Nat) : Prop := ∃ e P, e < S.d ∧ S.pt e = some P ∧ tb (S.sq e).2.1 p = true ∧ tb P.1 x = true
/-- no place beyond those that are read -/
def BB (S : TS) : Prop :=
  (∀ e, e ≤ S.d → ∀ p, S.q ≤ p → tb (S.sq e).2.1 p = false) ∧
  (∀ e, e ≤ S.d → ∀ p, S.q ≤ p → tb (S.ch e).2.1 p = false) ∧
  (∀ e P, e ≤ S.d → S.pt e = some P → ∀ p, S.q ≤ p → tb P.2.1 p = false) ∧
  (∀ e, e ≤ S.d → bz (S.ch e).2.2) ∧
  (∀ e P, e ≤ S.d → S.pt e = some P → bz P.2.2)
theorem BB.sq {S : TS} (h_ : BB S) : ∀ e, e ≤ S.d → ∀ p, S.q ≤ p → tb (S.sq e).2.1 p = false := h_.1
theorem BB.ch {S : TS} (h_ : BB S) : ∀ e, e ≤ S.d → ∀ p, S.q ≤ p → tb (S.ch e).2.1 p = false := h_.2.1
theorem BB.pt {S : TS} (h_ : BB S) : ∀ e P, e ≤ S.d → S.pt e = some P → ∀ p, S.q ≤ p → tb P.2.1 p = false := h_.2.2.1
theorem BB.chb {S : TS} (h_ : BB S) : ∀ e, e ≤ S.d → bz (S.ch e).2.2 := h_.2.2.2.1
theorem BB.ptb {S : TS} (h_ : BB S) : ∀ e P, e ≤ S.d → S.pt e = some P → bz P.2.2 := h_.2.2.2.2

def RTx (S : TS) (rd dp : Int32) (hp rl pf rb rf re pl pe cf cl ce rlt : Nat → Int32) : Prop :=
  (S.d ≤ 4) ∧
  (dp = nI S.d) ∧
  (rd = nI S.q) ∧
  (∀ e, e ≤ S.d → (cf e, cl e, ce e) = S.ch e) ∧
  (∀ e, e < S.d → (rf e, rl e, re e) = rowE S e ∧ hp e = 0) ∧
  ((rf S.d, rl S.d, re S.d) = S.sq S.d) ∧
  (S.pt S.d = none → hp S.d = 0) ∧
  (∀ P, S.pt S.d = some P → ¬ hp S.d = 0 ∧ (pf S.d, pl S.d, pe S.d) = P) ∧
  (∀ p, p < S.q → rlt p = S.lt p) ∧
  (∀ p x, p < S.q → x < 32 → (tb (rb p) x = true ↔ tb (S.fo p) x = true ∨ Pend S p x)) ∧
  (BB S)
theorem RTx.d4 {S : TS} {rd dp : Int32} {hp rl pf rb rf re pl pe cf cl ce rlt : Nat → Int32} (h_ : RTx S rd dp hp rl pf rb rf re pl pe cf cl ce rlt) : S.d ≤ 4 := h_.1
theorem RTx.dp {S : TS} {rd dp : Int32} {hp rl pf rb rf re pl pe cf cl ce rlt : Nat → Int32} (h_ : RTx S rd dp hp rl pf rb rf re pl pe cf cl ce rlt) : dp = nI S.d := h_.2.1
theorem RTx.rd {S : TS} {rd dp : Int32} {hp rl pf rb rf re pl pe cf cl ce rlt : Nat → Int32} (h_ : RTx S rd dp hp rl pf rb rf re pl pe cf cl ce rlt) : rd = nI S.q := h_.2.2.1
theorem RTx.ch {S : TS} {rd dp : Int32} {hp rl pf rb rf re pl pe cf cl ce rlt : Nat → Int32} (h_ : RTx S rd dp hp rl pf rb rf re pl pe cf cl ce rlt) : ∀ e, e ≤ S.d → (cf e, cl e, ce e) = S.ch e := h_.2.2.2.1
theorem RTx.rw {S : TS} {rd dp : Int32} {hp rl pf rb rf re pl pe cf cl ce rlt : Nat → Int32} (h_ : RTx S rd dp hp rl pf rb rf re pl pe cf cl ce rlt) : ∀ e, e < S.d → (rf e, rl e, re e) = rowE S e ∧ hp e = 0 := h_.2.2.2.2.1
theorem RTx.rd0 {S : TS} {rd dp : Int32} {hp rl pf rb rf re pl pe cf cl ce rlt : Nat → Int32} (h_ : RTx S rd dp hp rl pf rb rf re pl pe cf cl ce rlt) : (rf S.d, rl S.d, re S.d) = S.sq S.d := h_.2.2.2.2.2.1
theorem RTx.h0 {S : TS} {rd dp : Int32} {hp rl pf rb rf re pl pe cf cl ce rlt : Nat → Int32} (h_ : RTx S rd dp hp rl pf rb rf re pl pe cf cl ce rlt) : S.pt S.d = none → hp S.d = 0 := h_.2.2.2.2.2.2.1
theorem RTx.h1 {S : TS} {rd dp : Int32} {hp rl pf rb rf re pl pe cf cl ce rlt : Nat → Int32} (h_ : RTx S rd dp hp rl pf rb rf re pl pe cf cl ce rlt) : ∀ P, S.pt S.d = some P → ¬ hp S.d = 0 ∧ (pf S.d, pl S.d, pe S.d) = P := h_.2.2.2.2.2.2.2.1
theorem RTx.lt {S : TS} {rd dp : Int32} {hp rl pf rb rf re pl pe cf cl ce rlt : Nat → Int32} (h_ : RTx S rd dp hp rl pf rb rf re pl pe cf cl ce rlt) : ∀ p, p < S.q → rlt p = S.lt p := h_.2.2.2.2.2.2.2.2.1
theorem RTx.rb {S : TS} {rd dp : Int32} {hp rl pf rb rf re pl pe cf cl ce rlt : Nat → Int32} (h_ : RTx S rd dp hp rl pf rb rf re pl pe cf cl ce rlt) : ∀ p x, p < S.q → x < 32 → (tb (rb p) x = true ↔ tb (S.fo p) x = true ∨ Pend S p x) := h_.2.2.2.2.2.2.2.2.2.1
theorem RTx.bb {S : TS} {rd dp : Int32} {hp rl pf rb rf re pl pe cf cl ce rlt : Nat → Int32} (h_ : RTx S rd dp hp rl pf rb rf re pl pe cf cl ce rlt) : BB S := h_.2.2.2.2.2.2.2.2.2.2

theorem thenP_bb {a b : Pc} {p : Nat} (ha : tb a.2.1 p = false) (hb : tb b.2.1 p = false) : tb (thenP a b).2.1 p = false := by
  unfold thenP
  dsimp only
  split
  · exact hb
  · rw [tb_or, ha, hb]; rfl
theorem joinBB {S : TS} (h : BB S) : BB (joinT S) := by
  cases e : S.pt S.d with
  | none => have : joinT S = S := by unfold joinT; rw [e]
            rw [this]; exact h
  | some P =>
    have ej : joinT S = TS.mk S.d S.q S.lt (linkF S.q (S.sq S.d).2.1 P.1 S.fo) S.ch (upF S.sq S.d (thenP (S.sq S.d) P)) (upF S.pt S.d none) := by unfold joinT; rw [e]
    rw [ej]
    refine ⟨fun e' he p hp => ?_, h.ch, fun e' Q he hQ p hp => ?_, h.chb, fun e' Q he hQ => ?_⟩
    · show tb (upF S.sq S.d (thenP (S.sq S.d) P) e').2.1 p = false
      by_cases y : e' = S.d
      · subst y; rw [upF_s]; exact thenP_bb (h.sq _ (Nat.le_refl _) p hp) (h.pt _ P (Nat.le_refl _) e p hp)
      · rw [upF_n y]; exact h.sq e' he p hp
    · have hQ : upF S.pt S.d none e' = some Q := hQ
      by_cases y : e' = S.d
      · subst y; rw [upF_s] at hQ; cases hQ
      · rw [upF_n y] at hQ; exact h.pt e' Q he hQ p hp
    · have hQ : upF S.pt S.d none e' = some Q := hQ
      by_cases y : e' = S.d
      · subst y; rw [upF_s] at hQ; cases hQ
      · rw [upF_n y] at hQ; exact h.ptb e' Q he hQ
theorem q_settle {S : TS} {rd dp : Int32} {hp rl pf rb rf re pl pe cf cl ce rlt : Nat → Int32} (h : RTx S rd dp hp rl pf rb rf re pl pe cf cl ce rlt) (hq : S.q ≤ 24) {post : (Nat → Int32) → (Nat → Int32) → (Nat → Int32) → (Nat → Int32) → (Nat → Int32) → Prop}
    (hpost : ∀ hp' rl' rb' rf' re', RTx (joinT S) rd dp hp' rl' pf rb' rf' re' pl pe cf cl ce rlt → post hp' rl' rb' rf' re') : p_M_settle rd dp hp rl pf rb rf re pl pe post := by
  have hd := h.d4
  have hv : vp_in dp 6 := by rw [h.dp]; exact vp_in_nI (by omega) (by omega)
  have hdc : dp.toNatClampNeg = S.d := by rw [h.dp, nI_clamp (by omega)]
  cases e : S.pt S.d with
  | none =>
    have ej : joinT S = S := by unfold joinT; rw [e]
    unfold p_M_settle
    rw [hdc]
    rw [ej] at hpost
    exact ⟨hv, fun z => absurd (h.h0 e) z, fun _ => hpost _ _ _ _ _ h⟩
  | some P =>
    have ej : joinT S = TS.mk S.d S.q S.lt (linkF S.q (S.sq S.d).2.1 P.1 S.fo) S.ch (upF S.sq S.d (thenP (S.sq S.d) P)) (upF S.pt S.d none) := by unfold joinT; rw [e]
    obtain ⟨hh, hP⟩ := h.h1 P e
    have p1 : pf S.d = P.1 := congrArg (fun z => z.1) hP
    have p2 : pl S.d = P.2.1 := congrArg (fun z => z.2.1) hP
    have p3 : pe S.d = P.2.2 := congrArg (fun z => z.2.2) hP
    have s1 : rf S.d = (S.sq S.d).1 := congrArg (fun z => z.1) h.rd0
    have s2 : rl S.d = (S.sq S.d).2.1 := congrArg (fun z => z.2.1) h.rd0
    have s3 : re S.d = (S.sq S.d).2.2 := congrArg (fun z => z.2.2) h.rd0
    refine q_settleA hv hdc hh ?_
    rw [h.rd]
    refine q_join hq (fun g hg => hpost _ _ _ _ _ ?_)
    have hbb := joinBB h.bb
    rw [ej] at hbb ⊢
    refine ⟨h.d4, h.dp, h.rd, h.ch, fun e' he' => ?_, ?_, fun _ => pk_us, fun Q hQ => ?_, h.lt, fun p x hpq hx => ?_, hbb⟩
    · have he' : e' < S.d := he'
      have hne : e' ≠ S.d := by omega
      rw [pk_un hne, pk_un hne, pk_un hne, pk_un hne]
      have : rowE (TS.mk S.d S.q S.lt (linkF S.q (S.sq S.d).2.1 P.1 S.fo) S.ch (upF S.sq S.d (thenP (S.sq S.d) P)) (upF S.pt S.d none)) e' = rowE S e' := by
        show (match upF S.pt S.d none e' with | none => upF S.sq S.d _ e' | some P => thenP (upF S.sq S.d _ e') P) = _
        rw [upF_n hne, upF_n hne]; rfl
      rw [this]
      exact h.rw e' he'
    · show (upd rf S.d _ S.d, upd rl S.d _ S.d, upd re S.d _ S.d) = upF S.sq S.d (thenP (S.sq S.d) P) S.d
      rw [pk_us, pk_us, pk_us, upF_s, p1, p2, p3, s1, s2, s3]
      unfold thenP
      refine Prod.ext ?_ (Prod.ext ?_ rfl)
      · dsimp only
        split
        · exact tb_ext fun p _ => by rw [tb_or, tb_0, Bool.or_false]
        · rfl
      · dsimp only
        split
        · exact tb_ext fun p _ => by rw [tb_or, tb_0, Bool.or_false]
        · exact tb_ext fun p _ => by rw [tb_or, tb_or, Bool.or_comm]
    · have hQ : upF S.pt S.d none S.d = some Q := hQ
      rw [upF_s] at hQ; cases hQ
    · have hpq : p < S.q := hpq
      rw [hg p hpq]
      show tb (linkF S.q (rl S.d) (pf S.d) rb p) x = true ↔ tb (linkF S.q (S.sq S.d).2.1 P.1 S.fo p) x = true ∨ Pend (TS.mk S.d S.q S.lt (linkF S.q (S.sq S.d).2.1 P.1 S.fo) S.ch (upF S.sq S.d (thenP (S.sq S.d) P)) (upF S.pt S.d none)) p x
      have hpend : Pend (TS.mk S.d S.q S.lt (linkF S.q (S.sq S.d).2.1 P.1 S.fo) S.ch (upF S.sq S.d (thenP (S.sq S.d) P)) (upF S.pt S.d none)) p x ↔ Pend S p x := by
        unfold Pend
        constructor
        · rintro ⟨e', Q, he, h1, h2, h3⟩
          have he : e' < S.d := he
          have hne : e' ≠ S.d := by omega
          have h1 : upF S.pt S.d none e' = some Q := h1
          have h2 : tb (upF S.sq S.d (thenP (S.sq S.d) P) e').2.1 p = true := h2
          rw [upF_n hne] at h1 h2
          exact ⟨e', Q, he, h1, h2, h3⟩
        · rintro ⟨e', Q, he, h1, h2, h3⟩
          have hne : e' ≠ S.d := by omega
          refine ⟨e', Q, he, ?_, ?_, h3⟩
          · show upF S.pt S.d none e' = some Q
            rw [upF_n hne]; exact h1
          · show tb (upF S.sq S.d (thenP (S.sq S.d) P) e').2.1 p = true
            rw [upF_n hne]; exact h2
      rw [hpend, p1, s2]
      unfold linkF
      by_cases y : p < S.q ∧ tb (S.sq S.d).2.1 p = true
      · rw [if_pos y, if_pos y, tb_or, tb_or, Bool.or_eq_true, Bool.or_eq_true, h.rb p x hpq hx]
        constructor
        · rintro ((a | a) | a)
          · exact Or.inl (Or.inl a)
          · exact Or.inr a
          · exact Or.inl (Or.inr a)
        · rintro ((a | a) | a)
          · exact Or.inl (Or.inl a)
          · exact Or.inr a
          · exact Or.inl (Or.inr a)
      · rw [if_neg y, if_neg y]; exact h.rb p x hpq hx