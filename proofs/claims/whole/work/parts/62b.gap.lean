/-! The widest gap: states between are settled in the order of their ways in -/
theorem nI_mx {a b : Nat} (ha : a < 2 ^ 31) (hb : b < 2 ^ 31) : (if nI a < nI b then nI b else nI a) = nI (max a b) := by
  by_cases h : a < b
  · rw [if_pos (nI_lt h hb), Nat.max_eq_right (by omega)]
  · rw [if_neg (nI_nlt (by omega) ha), Nat.max_eq_left (by omega)]
def FB (n : Nat) (tr : Nat → Nat → Option Nat) (w : Nat → Prop) (b : Nat) (bt : Nat → Nat) (wd : Nat) : Prop :=
  (∀ i, i < b → bt i < n) ∧
  (∀ i, i < b → ¬ w (bt i)) ∧
  (∀ i, i < b → ∃ m, Nw (Ed n tr) (Wn n w) (m + 1) (bt i)) ∧
  (∀ i j, i < b → j < b → bt i = bt j → i = j) ∧
  (wd ≤ 1) ∧
  (wd = 1 → ∃ m y x, Nw (Ed n tr) (Wn n w) m y ∧ Ed n tr y x ∧ Wn n w x) ∧
  (∀ y c x, (Wn n w y ∨ ∃ i, i < b ∧ bt i = y) → c < 6 → tr y c = some x → x < n → w x → wd = 1) ∧
  (∀ y c x, (Wn n w y ∨ ∃ i, i < b ∧ bt i = y) → c < 6 → tr y c = some x → x < n → ¬ w x → ∃ i, i < b ∧ bt i = x)
theorem FB.bn {n : Nat} {tr : Nat → Nat → Option Nat} {w : Nat → Prop} {b : Nat} {bt : Nat → Nat} {wd : Nat} (h_ : FB n tr w b bt wd) : ∀ i, i < b → bt i < n := h_.1
theorem FB.bw {n : Nat} {tr : Nat → Nat → Option Nat} {w : Nat → Prop} {b : Nat} {bt : Nat → Nat} {wd : Nat} (h_ : FB n tr w b bt wd) : ∀ i, i < b → ¬ w (bt i) := h_.2.1
theorem FB.br {n : Nat} {tr : Nat → Nat → Option Nat} {w : Nat → Prop} {b : Nat} {bt : Nat → Nat} {wd : Nat} (h_ : FB n tr w b bt wd) : ∀ i, i < b → ∃ m, Nw (Ed n tr) (Wn n w) (m + 1) (bt i) := h_.2.2.1
theorem FB.inj {n : Nat} {tr : Nat → Nat → Option Nat} {w : Nat → Prop} {b : Nat} {bt : Nat → Nat} {wd : Nat} (h_ : FB n tr w b bt wd) : ∀ i j, i < b → j < b → bt i = bt j → i = j := h_.2.2.2.1
theorem FB.wd1 {n : Nat} {tr : Nat → Nat → Option Nat} {w : Nat → Prop} {b : Nat} {bt : Nat → Nat} {wd : Nat} (h_ : FB n tr w b bt wd) : wd ≤ 1 := h_.2.2.2.2.1
theorem FB.wa {n : Nat} {tr : Nat → Nat → Option Nat} {w : Nat → Prop} {b : Nat} {bt : Nat → Nat} {wd : Nat} (h_ : FB n tr w b bt wd) : wd = 1 → ∃ m y x, Nw (Ed n tr) (Wn n w) m y ∧ Ed n tr y x ∧ Wn n w x := h_.2.2.2.2.2.1
theorem FB.cw {n : Nat} {tr : Nat → Nat → Option Nat} {w : Nat → Prop} {b : Nat} {bt : Nat → Nat} {wd : Nat} (h_ : FB n tr w b bt wd) : ∀ y c x, (Wn n w y ∨ ∃ i, i < b ∧ bt i = y) → c < 6 → tr y c = some x → x < n → w x → wd = 1 := h_.2.2.2.2.2.2.1
theorem FB.cb {n : Nat} {tr : Nat → Nat → Option Nat} {w : Nat → Prop} {b : Nat} {bt : Nat → Nat} {wd : Nat} (h_ : FB n tr w b bt wd) : ∀ y c x, (Wn n w y ∨ ∃ i, i < b ∧ bt i = y) → c < 6 → tr y c = some x → x < n → ¬ w x → ∃ i, i < b ∧ bt i = x := h_.2.2.2.2.2.2.2

theorem FB.all {n : Nat} {tr : Nat → Nat → Option Nat} {w : Nat → Prop} {b wd : Nat} {bt : Nat → Nat} (h : FB n tr w b bt wd) : ∀ m x, Nw (Ed n tr) (Wn n w) (m + 1) x → ∃ i, i < b ∧ bt i = x := by
  intro m
  induction m with
  | zero =>
    rintro x ⟨⟨y, hy, h1, h2, c, hc, e⟩, hw⟩
    exact h.cb y c x (Or.inl hy) hc e h2 (fun q => hw ⟨h2, q⟩)
  | succ m ih =>
    rintro x ⟨⟨y, hy, h1, h2, c, hc, e⟩, hw⟩
    exact h.cb y c x (Or.inr (ih y hy)) hc e h2 (fun q => hw ⟨h2, q⟩)
/-- a step out of a state between -/
def ed (tr : Nat → Nat → Option Nat) (bt : Nat → Nat) (e : Nat) : Option Nat := tr (bt (e / 6)) (e % 6)
/-- the ways in that haven't been gone yet -/
def dg (tr : Nat → Nat → Option Nat) (bt : Nat → Nat) (b : Nat) (pr : Nat → Bool) (x : Nat) : Nat := sumF (fun e => if pr e = false ∧ ed tr bt e = some x then 1 else 0) (6 * b)
def setB (pr : Nat → Bool) (e0 : Nat) : Nat → Bool := fun e => if e = e0 then true else pr e
theorem dg_step {tr : Nat → Nat → Option Nat} {bt : Nat → Nat} {b e0 : Nat} {pr : Nat → Bool} (he : e0 < 6 * b) (hp : pr e0 = false) (x : Nat) : dg tr bt b (setB pr e0) x + (if ed tr bt e0 = some x then 1 else 0) = dg tr bt b pr x := by
  have := @sum_upd (fun e => if pr e = false ∧ ed tr bt e = some x then 1 else 0) (fun e => if setB pr e0 e = false ∧ ed tr bt e = some x then 1 else 0) e0 (6 * b) he (fun e hne => by
    have : setB pr e0 e = pr e := if_neg hne
    simp only [this])
  have h1 : setB pr e0 e0 = true := if_pos rfl
  simp only [h1, hp, true_and, Bool.true_eq_false, false_and, if_false] at this
  unfold dg
  omega
theorem dg_le {tr : Nat → Nat → Option Nat} {bt : Nat → Nat} {b : Nat} {pr : Nat → Bool} (x : Nat) : dg tr bt b pr x ≤ 6 * b := sum_le (fun e => by split <;> omega) _
/-- the walk over the settled: p are done, and cc steps of the next -/
def P3 (n : Nat) (tr : Nat → Nat → Option Nat) (w : Nat → Prop) (b : Nat) (bt : Nat → Nat) (wd p cc lim q : Nat) (ps : Nat → Nat) (pr : Nat → Bool) (fv : Nat → Nat) (wv : Nat) (far wi se : Nat → Int32) : Prop :=
  (∀ j, j < q → ps j < b) ∧
  (∀ i j, i < q → j < q → ps i = ps j → i = j) ∧
  (∀ j, j < q → se j = nI (bt (ps j))) ∧
  (∀ e, e < 6 * b → (pr e = true ↔ (∃ j, j < p ∧ ps j = e / 6) ∨ (p < q ∧ ps p = e / 6 ∧ e % 6 < cc))) ∧
  (∀ i, i < b → wi (bt i) = nI (dg tr bt b pr (bt i))) ∧
  (∀ i, i < b → ((∃ j, j < q ∧ ps j = i) ↔ dg tr bt b pr (bt i) = 0)) ∧
  (∀ i, i < b → far (bt i) = nI (fv i)) ∧
  (∀ i, i < b → 1 ≤ fv i ∧ (2 ≤ fv i → ∃ m, fv i = m + 1 ∧ Nw (Ed n tr) (Wn n w) (m + 1) (bt i))) ∧
  (∀ i, i < b → fv i ≤ lim) ∧
  (∀ e, e < 6 * b → pr e = true → ∀ i, i < b → ed tr bt e = some (bt i) → fv (e / 6) + 1 ≤ fv i) ∧
  (wd ≤ wv) ∧
  (wv ≤ lim + 1) ∧
  (wv = wd ∨ ∃ m y x, wv = m + 1 ∧ Nw (Ed n tr) (Wn n w) m y ∧ Ed n tr y x ∧ Wn n w x) ∧
  (∀ e, e < 6 * b → pr e = true → ∀ x, ed tr bt e = some x → x < n → w x → fv (e / 6) + 1 ≤ wv)
theorem P3.pb {n : Nat} {tr : Nat → Nat → Option Nat} {w : Nat → Prop} {b : Nat} {bt : Nat → Nat} {wd p cc lim q : Nat} {ps : Nat → Nat} {pr : Nat → Bool} {fv : Nat → Nat} {wv : Nat} {far wi se : Nat → Int32} (h_ : P3 n tr w b bt wd p cc lim q ps pr fv wv far wi se) : ∀ j, j < q → ps j < b := h_.1
theorem P3.pi {n : Nat} {tr : Nat → Nat → Option Nat} {w : Nat → Prop} {b : Nat} {bt : Nat → Nat} {wd p cc lim q : Nat} {ps : Nat → Nat} {pr : Nat → Bool} {fv : Nat → Nat} {wv : Nat} {far wi se : Nat → Int32} (h_ : P3 n tr w b bt wd p cc lim q ps pr fv wv far wi se) : ∀ i j, i < q → j < q → ps i = ps j → i = j := h_.2.1
theorem P3.se {n : Nat} {tr : Nat → Nat → Option Nat} {w : Nat → Prop} {b : Nat} {bt : Nat → Nat} {wd p cc lim q : Nat} {ps : Nat → Nat} {pr : Nat → Bool} {fv : Nat → Nat} {wv : Nat} {far wi se : Nat → Int32} (h_ : P3 n tr w b bt wd p cc lim q ps pr fv wv far wi se) : ∀ j, j < q → se j = nI (bt (ps j)) := h_.2.2.1
theorem P3.pq {n : Nat} {tr : Nat → Nat → Option Nat} {w : Nat → Prop} {b : Nat} {bt : Nat → Nat} {wd p cc lim q : Nat} {ps : Nat → Nat} {pr : Nat → Bool} {fv : Nat → Nat} {wv : Nat} {far wi se : Nat → Int32} (h_ : P3 n tr w b bt wd p cc lim q ps pr fv wv far wi se) : ∀ e, e < 6 * b → (pr e = true ↔ (∃ j, j < p ∧ ps j = e / 6) ∨ (p < q ∧ ps p = e / 6 ∧ e % 6 < cc)) := h_.2.2.2.1
theorem P3.wi {n : Nat} {tr : Nat → Nat → Option Nat} {w : Nat → Prop} {b : Nat} {bt : Nat → Nat} {wd p cc lim q : Nat} {ps : Nat → Nat} {pr : Nat → Bool} {fv : Nat → Nat} {wv : Nat} {far wi se : Nat → Int32} (h_ : P3 n tr w b bt wd p cc lim q ps pr fv wv far wi se) : ∀ i, i < b → wi (bt i) = nI (dg tr bt b pr (bt i)) := h_.2.2.2.2.1
theorem P3.st {n : Nat} {tr : Nat → Nat → Option Nat} {w : Nat → Prop} {b : Nat} {bt : Nat → Nat} {wd p cc lim q : Nat} {ps : Nat → Nat} {pr : Nat → Bool} {fv : Nat → Nat} {wv : Nat} {far wi se : Nat → Int32} (h_ : P3 n tr w b bt wd p cc lim q ps pr fv wv far wi se) : ∀ i, i < b → ((∃ j, j < q ∧ ps j = i) ↔ dg tr bt b pr (bt i) = 0) := h_.2.2.2.2.2.1
theorem P3.fa {n : Nat} {tr : Nat → Nat → Option Nat} {w : Nat → Prop} {b : Nat} {bt : Nat → Nat} {wd p cc lim q : Nat} {ps : Nat → Nat} {pr : Nat → Bool} {fv : Nat → Nat} {wv : Nat} {far wi se : Nat → Int32} (h_ : P3 n tr w b bt wd p cc lim q ps pr fv wv far wi se) : ∀ i, i < b → far (bt i) = nI (fv i) := h_.2.2.2.2.2.2.1
theorem P3.f1 {n : Nat} {tr : Nat → Nat → Option Nat} {w : Nat → Prop} {b : Nat} {bt : Nat → Nat} {wd p cc lim q : Nat} {ps : Nat → Nat} {pr : Nat → Bool} {fv : Nat → Nat} {wv : Nat} {far wi se : Nat → Int32} (h_ : P3 n tr w b bt wd p cc lim q ps pr fv wv far wi se) : ∀ i, i < b → 1 ≤ fv i ∧ (2 ≤ fv i → ∃ m, fv i = m + 1 ∧ Nw (Ed n tr) (Wn n w) (m + 1) (bt i)) := h_.2.2.2.2.2.2.2.1
theorem P3.fl {n : Nat} {tr : Nat → Nat → Option Nat} {w : Nat → Prop} {b : Nat} {bt : Nat → Nat} {wd p cc lim q : Nat} {ps : Nat → Nat} {pr : Nat → Bool} {fv : Nat → Nat} {wv : Nat} {far wi se : Nat → Int32} (h_ : P3 n tr w b bt wd p cc lim q ps pr fv wv far wi se) : ∀ i, i < b → fv i ≤ lim := h_.2.2.2.2.2.2.2.2.1
theorem P3.fe {n : Nat} {tr : Nat → Nat → Option Nat} {w : Nat → Prop} {b : Nat} {bt : Nat → Nat} {wd p cc lim q : Nat} {ps : Nat → Nat} {pr : Nat → Bool} {fv : Nat → Nat} {wv : Nat} {far wi se : Nat → Int32} (h_ : P3 n tr w b bt wd p cc lim q ps pr fv wv far wi se) : ∀ e, e < 6 * b → pr e = true → ∀ i, i < b → ed tr bt e = some (bt i) → fv (e / 6) + 1 ≤ fv i := h_.2.2.2.2.2.2.2.2.2.1
theorem P3.wg {n : Nat} {tr : Nat → Nat → Option Nat} {w : Nat → Prop} {b : Nat} {bt : Nat → Nat} {wd p cc lim q : Nat} {ps : Nat → Nat} {pr : Nat → Bool} {fv : Nat → Nat} {wv : Nat} {far wi se : Nat → Int32} (h_ : P3 n tr w b bt wd p cc lim q ps pr fv wv far wi se) : wd ≤ wv := h_.2.2.2.2.2.2.2.2.2.2.1
theorem P3.wl {n : Nat} {tr : Nat → Nat → Option Nat} {w : Nat → Prop} {b : Nat} {bt : Nat → Nat} {wd p cc lim q : Nat} {ps : Nat → Nat} {pr : Nat → Bool} {fv : Nat → Nat} {wv : Nat} {far wi se : Nat → Int32} (h_ : P3 n tr w b bt wd p cc lim q ps pr fv wv far wi se) : wv ≤ lim + 1 := h_.2.2.2.2.2.2.2.2.2.2.2.1
theorem P3.wa {n : Nat} {tr : Nat → Nat → Option Nat} {w : Nat → Prop} {b : Nat} {bt : Nat → Nat} {wd p cc lim q : Nat} {ps : Nat → Nat} {pr : Nat → Bool} {fv : Nat → Nat} {wv : Nat} {far wi se : Nat → Int32} (h_ : P3 n tr w b bt wd p cc lim q ps pr fv wv far wi se) : wv = wd ∨ ∃ m y x, wv = m + 1 ∧ Nw (Ed n tr) (Wn n w) m y ∧ Ed n tr y x ∧ Wn n w x := h_.2.2.2.2.2.2.2.2.2.2.2.2.1
theorem P3.we {n : Nat} {tr : Nat → Nat → Option Nat} {w : Nat → Prop} {b : Nat} {bt : Nat → Nat} {wd p cc lim q : Nat} {ps : Nat → Nat} {pr : Nat → Bool} {fv : Nat → Nat} {wv : Nat} {far wi se : Nat → Int32} (h_ : P3 n tr w b bt wd p cc lim q ps pr fv wv far wi se) : ∀ e, e < 6 * b → pr e = true → ∀ x, ed tr bt e = some x → x < n → w x → fv (e / 6) + 1 ≤ wv := h_.2.2.2.2.2.2.2.2.2.2.2.2.2

theorem q_passOn {n : Nat} {fa fw : Nat → Int32} {tr : Nat → Nat → Option Nat} {w : Nat → Prop} (Q : QM n fa fw tr w) {b wd : Nat} {bt : Nat → Nat} (F : FB n tr w b bt wd) {p lim q wv : Nat} {ps fv : Nat → Nat} {pr : Nat → Bool} {far wi se : Nat → Int32} (hlim : lim ≤ 600) (h : P3 n tr w b bt wd p 0 lim q ps pr fv wv far wi se) (hp : p < q) {post : Int32 → Int32 → (Nat → Int32) → (Nat → Int32) → (Nat → Int32) → Prop}
    (hpost : ∀ q' ps' pr' fv' wv' far' wi' se', q ≤ q' → P3 n tr w b bt wd (p + 1) 0 (lim + 1) q' ps' pr' fv' wv' far' wi' se' → (∀ j, j < q → ps' j = ps j) → post (nI q') (nI wv') far' wi' se') :
    p_GapFinder_passOn (nI q) (nI wv) n far n fw (6 * n) fa n wi n se (nI (bt (ps p))) post := by
  have hle := Q.le
  have hbn : b ≤ n := inj_le F.bn F.inj
  have hi0 := h.pb p hp
  have hs0 := F.bn _ hi0
  unfold p_GapFinder_passOn
  rw [nI_clamp (n := bt (ps p)) (by omega), h.fa _ hi0, nI_1]
  refine ⟨vp_in_nI hs0 (by omega), ?_⟩
  have hF0 := h.fl _ hi0
  have hatt : ∃ m, fv (ps p) = m + 1 ∧ Nw (Ed n tr) (Wn n w) (m + 1) (bt (ps p)) := by
    obtain ⟨f1, f2⟩ := h.f1 _ hi0
    by_cases h2 : 2 ≤ fv (ps p)
    · exact f2 h2
    · obtain ⟨m, hm⟩ := F.br _ hi0
      cases m with
      | zero => exact ⟨0, by omega, hm⟩
      | succ m =>
        exfalso
        obtain ⟨⟨y, hy, -, -, c, hc, ey⟩, -⟩ := hm
        obtain ⟨i2, hi2, e2⟩ := F.all m y hy
        have hd0 := (h.st _ hi0).mp ⟨p, hp, rfl⟩
        have hed2 : ed tr bt (6 * i2 + c) = some (bt (ps p)) := by
          unfold ed
          rw [show (6 * i2 + c) / 6 = i2 by omega, show (6 * i2 + c) % 6 = c by omega, e2]; exact ey
        have hz := sum_0 _ hd0 (6 * i2 + c) (by omega)
        have hpe : pr (6 * i2 + c) = true := by
          cases hq : pr (6 * i2 + c) with
          | true => rfl
          | false => rw [if_pos ⟨hq, hed2⟩] at hz; cases hz
        have := h.fe _ (by omega) hpe _ hi0 hed2
        rw [show (6 * i2 + c) / 6 = i2 by omega] at this
        have := (h.f1 i2 hi2).1
        omega
  refine pk_loop (σ := Nat × (Nat → Nat) × (Nat → Bool) × (Nat → Nat) × Nat × (Nat → Int32) × (Nat → Int32) × (Nat → Int32)) (fun k c z => p_GapFinder_passOn_11 n n fw (6 * n) fa n n (nI (bt (ps p))) post k (nI (fv (ps p) + 1)) (nI c) (nI z.1) (nI z.2.2.2.2.1) z.2.2.2.2.2.1 z.2.2.2.2.2.2.1 z.2.2.2.2.2.2.2) (fun c z => (q ≤ z.1 ∧ (∀ j, j < q → z.2.1 j = ps j) ∧ z.2.2.2.1 (ps p) = fv (ps p)) ∧ P3 n tr w b bt wd p c (lim + 1) z.1 z.2.1 z.2.2.1 z.2.2.2.1 z.2.2.2.2.1 z.2.2.2.2.2.1 z.2.2.2.2.2.2.1 z.2.2.2.2.2.2.2) 6 0 (q, ps, pr, fv, wv, far, wi, se) (Nat.zero_le _) ?_ ?_ ?_
  · exact ⟨⟨Nat.le_refl _, fun _ _ => rfl, rfl⟩, h.pb, h.pi, h.se, h.pq, h.wi, h.st, h.fa, h.f1, fun i hi => Nat.le_succ_of_le (h.fl i hi), h.fe, h.wg, by have := h.wl; dsimp only; omega, h.wa, h.we⟩
  · rintro k ⟨q', ps', pr', fv', wv', far', wi', se'⟩ ⟨⟨c1, c2, c3⟩, hI⟩
    refine ⟨fun _ => ?_, fun z => absurd (by decide) z⟩
    dsimp only at c1 c2 c3 hI ⊢
    refine hpost q' ps' pr' fv' wv' far' wi' se' c1 ⟨hI.pb, hI.pi, hI.se, fun e he => ?_, hI.wi, hI.st, hI.fa, hI.f1, hI.fl, hI.fe, hI.wg, hI.wl, hI.wa, hI.we⟩ c2
    rw [hI.pq e he]
    constructor
    · rintro (⟨j, hj, ej⟩ | ⟨h1, h2, h3⟩)
      · exact Or.inl ⟨j, by omega, ej⟩
      · exact Or.inl ⟨p, by omega, h2⟩
    · rintro (⟨j, hj, ej⟩ | ⟨h1, h2, h3⟩)
      · by_cases y : j = p
        · subst y; exact Or.inr ⟨by omega, ej, by omega⟩
        · exact Or.inl ⟨j, by omega, ej⟩
      · exact absurd h3 (Nat.not_lt_zero _)
  · rintro k c ⟨q', ps', pr', fv', wv', far', wi', se'⟩ hc ⟨⟨c1, c2, c3⟩, hI⟩ hk
    dsimp only at c1 c2 c3 hI hk ⊢
    have hpp : ps' p = ps p := c2 p hp
    have he0 : 6 * ps p + c < 6 * b := by omega
    have hed : ed tr bt (6 * ps p + c) = tr (bt (ps p)) c := by
      unfold ed
      rw [show (6 * ps p + c) / 6 = ps p by omega, show (6 * ps p + c) % 6 = c by omega]
    have hq' : q' ≤ b := inj_le hI.pb hI.pi
    have hpr0 : pr' (6 * ps p + c) = false := by
      cases e : pr' (6 * ps p + c) with
      | false => rfl
      | true =>
        exfalso
        rcases (hI.pq _ he0).mp e with ⟨j, hj, ej⟩ | ⟨h1, h2, h3⟩
        · have := hI.pi j p (by omega) (by omega) (by rw [ej, hpp]; omega)
          omega
        · omega
    have hprS : ∀ e, e < 6 * b → (setB pr' (6 * ps p + c) e = true ↔ (∃ j, j < p ∧ ps' j = e / 6) ∨ (p < q' ∧ ps' p = e / 6 ∧ e % 6 < c + 1)) := fun e he => by
      unfold setB
      by_cases y : e = 6 * ps p + c
      · rw [if_pos y]
        refine ⟨fun _ => Or.inr ⟨by omega, by rw [hpp]; omega, by omega⟩, fun _ => rfl⟩
      · rw [if_neg y, hI.pq e he]
        constructor
        · rintro (z | ⟨h1, h2, h3⟩)
          · exact Or.inl z
          · exact Or.inr ⟨h1, h2, by omega⟩
        · rintro (z | ⟨h1, h2, h3⟩)
          · exact Or.inl z
          · exact Or.inr ⟨h1, h2, by rw [hpp] at h2; omega⟩
    have hset : ∀ e, setB pr' (6 * ps p + c) e = true → e = 6 * ps p + c ∨ pr' e = true := fun e z => by
      unfold setB at z
      by_cases y : e = 6 * ps p + c
      · exact Or.inl y
      · rw [if_neg y] at z; exact Or.inr z
    refine ⟨fun z => absurd z (nI_ge (b := 6) hc (by omega)), fun _ => ?_⟩
    rw [nI_1]
    -- a step that leads to no state between leaves all ways in
    have hdsame : (∀ i, i < b → ed tr bt (6 * ps p + c) ≠ some (bt i)) → ∀ i, i < b → dg tr bt b (setB pr' (6 * ps p + c)) (bt i) = dg tr bt b pr' (bt i) := fun hne i hi => by
      have := dg_step (tr := tr) (bt := bt) he0 hpr0 (bt i)
      rw [if_neg (hne i hi)] at this
      omega
    refine q_step Q hs0 hc (fun hnone => ⟨fun z => absurd rfl z, fun _ => ?_⟩) (fun x hx hxn => ⟨fun _ => ?_, fun z => absurd z (nI_nm1 (by omega))⟩)
    · have hd := hdsame (fun i hi q => by rw [hed, hnone] at q; cases q)
      refine hk (q', ps', setB pr' (6 * ps p + c), fv', wv', far', wi', se') ⟨⟨c1, c2, c3⟩, hI.pb, hI.pi, hI.se, hprS, fun i hi => by rw [hd i hi]; exact hI.wi i hi, fun i hi => by rw [hd i hi]; exact hI.st i hi, hI.fa, hI.f1, hI.fl, fun e he hpe i hi hei => ?_, hI.wg, hI.wl, hI.wa, fun e he hpe x hex => ?_⟩
      · rcases hset e hpe with y | y
        · subst y; rw [hed, hnone] at hei; cases hei
        · exact hI.fe e he y i hi hei
      · rcases hset e hpe with y | y
        · subst y; rw [hed, hnone] at hex; cases hex
        · exact hI.we e he y x hex
    · have hE : Ed n tr (bt (ps p)) x := ⟨hs0, hxn, c, hc, hx⟩
      obtain ⟨m0, hm0, hN0⟩ := hatt
      have hlim1 := hI.fl _ hi0
      refine q_hasW Q hxn (fun hw => ⟨fun _ => ?_, fun z => absurd rfl z⟩) (fun hw => ⟨fun z => absurd z (by decide), fun _ => ?_⟩)
      · obtain ⟨i', hi', ei'⟩ := F.cb _ c x (Or.inr ⟨_, hi0, rfl⟩) hc hx hxn hw
        subst ei'
        have hstep := fun z => dg_step (tr := tr) (bt := bt) he0 hpr0 z
        have hone := hstep (bt i')
        rw [if_pos (by rw [hed, hx])] at hone
        have hoth : ∀ i, i < b → i ≠ i' → dg tr bt b (setB pr' (6 * ps p + c)) (bt i) = dg tr bt b pr' (bt i) := fun i hi hne => by
          have := hstep (bt i)
          rw [if_neg (by
            rw [hed, hx]
            intro y
            exact hne (F.inj i i' hi hi' (Option.some.inj y).symm))] at this
          omega
        have huns : ¬ ∃ j, j < q' ∧ ps' j = i' := fun z => by
          have := (hI.st i' hi').mp z
          omega
        have hdl := dg_le (tr := tr) (bt := bt) (b := b) (pr := pr') (bt i')
        have hxi := vp_in_nI hxn (by omega)
        have hfl := hI.fl i' hi'
        refine ⟨hxi, hxi, hxi, hxi, hxi, ?_⟩
        rw [nI_clamp (n := bt i') (by omega), pk_us, hI.wi i' hi', hI.fa i' hi', nI_mx (by omega) (by omega)]
        have hm1 : nI (dg tr bt b pr' (bt i')) - 1 = nI (dg tr bt b (setB pr' (6 * ps p + c)) (bt i')) := by
          rw [← hone, nI_pred]
        rw [hm1]
        -- the new distance of i'
        have hsrc : ps p ≠ i' := fun z => huns ⟨p, by omega, by rw [hpp, z]⟩
        have hprsrc : ∀ e, e < 6 * b → pr' e = true → e / 6 ≠ i' := fun e he hpe z => by
          rcases (hI.pq e he).mp hpe with ⟨j, hj, ej⟩ | ⟨h1, h2, h3⟩
          · exact huns ⟨j, by omega, by rw [ej, z]⟩
          · exact huns ⟨p, h1, by rw [h2, z]⟩
        have key : ∀ q2 ps2 se2, (q ≤ q2) → (∀ j, j < q → ps2 j = ps j) → (∀ j, j < q2 → ps2 j < b) → (∀ i j, i < q2 → j < q2 → ps2 i = ps2 j → i = j) → (∀ j, j < q2 → se2 j = nI (bt (ps2 j))) → (∀ j, j < q' → ps2 j = ps' j) → q' ≤ q2 → (∀ i, i < b → ((∃ j, j < q2 ∧ ps2 j = i) ↔ dg tr bt b (setB pr' (6 * ps p + c)) (bt i) = 0)) →
            P3 n tr w b bt wd p (c + 1) (lim + 1) q2 ps2 (setB pr' (6 * ps p + c)) (updN fv' i' (max (fv' i') (fv (ps p) + 1))) wv' (upd far' (bt i') (nI (max (fv' i') (fv (ps p) + 1)))) (upd wi' (bt i') (nI (dg tr bt b (setB pr' (6 * ps p + c)) (bt i')))) se2 := by
          intro q2 ps2 se2 a1 a2 a3 a4 a5 a6 a7 a8
          refine ⟨a3, a4, a5, fun e he => ?_, fun i hi => ?_, a8, fun i hi => ?_, fun i hi => ?_, fun i hi => ?_, fun e he hpe i hi hei => ?_, hI.wg, hI.wl, hI.wa, fun e he hpe y hey hyn hyw => ?_⟩
          · rw [hprS e he]
            constructor
            · rintro (⟨j, hj, ej⟩ | ⟨h1, h2, h3⟩)
              · exact Or.inl ⟨j, hj, by rw [a6 j (by omega)]; exact ej⟩
              · exact Or.inr ⟨by omega, by rw [a6 p (by omega)]; exact h2, h3⟩
            · rintro (⟨j, hj, ej⟩ | ⟨h1, h2, h3⟩)
              · exact Or.inl ⟨j, hj, by rw [← a6 j (by omega)]; exact ej⟩
              · exact Or.inr ⟨by omega, by rw [← a6 p (by omega)]; exact h2, h3⟩
          · by_cases y : i = i'
            · subst y; rw [pk_us]
            · rw [pk_un (fun z => y (F.inj i i' hi hi' z)), hoth i hi y]; exact hI.wi i hi
          · by_cases y : i = i'
            · subst y; rw [pk_us, updN_s]
            · rw [pk_un (fun z => y (F.inj i i' hi hi' z)), updN_n y]; exact hI.fa i hi
          · by_cases y : i = i'
            · subst y; rw [updN_s]
              rcases Nat.le_total (fv' i) (fv (ps p) + 1) with z | z
              · rw [Nat.max_eq_right z]
                refine ⟨by omega, fun _ => ⟨fv (ps p), rfl, ?_⟩⟩
                rw [hm0]
                exact ⟨⟨_, hN0, hE⟩, fun z => hw z.2⟩
              · rw [Nat.max_eq_left z]; exact hI.f1 i hi
            · rw [updN_n y]; exact hI.f1 i hi
          · by_cases y : i = i'
            · subst y; rw [updN_s]
              exact Nat.max_le.mpr ⟨hfl, by omega⟩
            · rw [updN_n y]; exact hI.fl i hi
          · rcases hset e hpe with y | y
            · subst y
              rw [show (6 * ps p + c) / 6 = ps p by omega, updN_n hsrc, c3]
              have : i = i' := by
                rw [hed, hx] at hei
                exact (F.inj i i' hi hi' (Option.some.inj hei).symm)
              subst this
              rw [updN_s]; exact Nat.le_max_right _ _
            · rw [updN_n (hprsrc e he y)]
              have := hI.fe e he y i hi hei
              by_cases z : i = i'
              · subst z; rw [updN_s]; exact Nat.le_trans this (Nat.le_max_left _ _)
              · rw [updN_n z]; exact this
          · rcases hset e hpe with z | z
            · subst z
              rw [hed, hx] at hey
              rw [← Option.some.inj hey] at hyw
              exact absurd hyw hw
            · rw [updN_n (hprsrc e he z)]
              exact hI.we e he z y hey hyn hyw
        refine ⟨fun z => ?_, fun z => ⟨?_, ?_⟩⟩
        · refine hk (q', ps', setB pr' (6 * ps p + c), updN fv' i' (max (fv' i') (fv (ps p) + 1)), wv', upd far' (bt i') (nI (max (fv' i') (fv (ps p) + 1))), upd wi' (bt i') (nI (dg tr bt b (setB pr' (6 * ps p + c)) (bt i'))), se') ⟨⟨c1, c2, ?_⟩, key q' ps' se' c1 c2 hI.pb hI.pi hI.se (fun _ _ => rfl) (Nat.le_refl _) (fun i hi => ?_)⟩
          · dsimp only; rw [updN_n hsrc]; exact c3
          · by_cases y : i = i'
            · subst y
              refine ⟨fun q => absurd q huns, fun q => absurd (by rw [q]; rfl) z⟩
            · rw [hoth i hi y]; exact hI.st i hi
        · have hd0 : dg tr bt b (setB pr' (6 * ps p + c)) (bt i') = 0 := (nI_eq (b := 0) (by omega) (by omega)).mp z
          have hpb2 : ∀ j, j < q' + 1 → updN ps' q' i' j < b := fun j hj => by
            by_cases y : j = q'
            · subst y; rw [updN_s]; exact hi'
            · rw [updN_n y]; exact hI.pb j (by omega)
          have hpi2 : ∀ i j, i < q' + 1 → j < q' + 1 → updN ps' q' i' i = updN ps' q' i' j → i = j := fun i j hi hj e => by
            by_cases y1 : i = q' <;> by_cases y2 : j = q'
            · omega
            · subst y1; rw [updN_s, updN_n y2] at e; exact absurd ⟨j, by omega, e.symm⟩ huns
            · subst y2; rw [updN_s, updN_n y1] at e; exact absurd ⟨i, by omega, e⟩ huns
            · rw [updN_n y1, updN_n y2] at e; exact hI.pi i j (by omega) (by omega) e
          have hq2 : q' + 1 ≤ b := inj_le hpb2 hpi2
          exact vp_in_nI (by omega) (by omega)
        · have hd0 : dg tr bt b (setB pr' (6 * ps p + c)) (bt i') = 0 := (nI_eq (b := 0) (by omega) (by omega)).mp z
          have hpb2 : ∀ j, j < q' + 1 → updN ps' q' i' j < b := fun j hj => by
            by_cases y : j = q'
            · subst y; rw [updN_s]; exact hi'
            · rw [updN_n y]; exact hI.pb j (by omega)
          have hpi2 : ∀ i j, i < q' + 1 → j < q' + 1 → updN ps' q' i' i = updN ps' q' i' j → i = j := fun i j hi hj e => by
            by_cases y1 : i = q' <;> by_cases y2 : j = q'
            · omega
            · subst y1; rw [updN_s, updN_n y2] at e; exact absurd ⟨j, by omega, e.symm⟩ huns
            · subst y2; rw [updN_s, updN_n y1] at e; exact absurd ⟨i, by omega, e⟩ huns
            · rw [updN_n y1, updN_n y2] at e; exact hI.pi i j (by omega) (by omega) e
          rw [nI_clamp (n := q') (by omega), nI_1]
          refine hk (q' + 1, updN ps' q' i', setB pr' (6 * ps p + c), updN fv' i' (max (fv' i') (fv (ps p) + 1)), wv', upd far' (bt i') (nI (max (fv' i') (fv (ps p) + 1))), upd wi' (bt i') (nI (dg tr bt b (setB pr' (6 * ps p + c)) (bt i'))), upd se' q' (nI (bt i'))) ⟨⟨by dsimp only; omega, fun j hj => by dsimp only; rw [updN_n (by omega)]; exact c2 j hj, ?_⟩, key (q' + 1) (updN ps' q' i') (upd se' q' (nI (bt i'))) (by omega) (fun j hj => by rw [updN_n (by omega)]; exact c2 j hj) hpb2 hpi2 (fun j hj => ?_) (fun j hj => by rw [updN_n (by omega)]) (by omega) (fun i hi => ?_)⟩
          · dsimp only; rw [updN_n hsrc]; exact c3
          · by_cases y : j = q'
            · subst y; rw [pk_us, updN_s]
            · rw [pk_un y, updN_n y]; exact hI.se j (by omega)
          · by_cases y : i = i'
            · subst y
              exact ⟨fun _ => hd0, fun _ => ⟨q', by omega, updN_s⟩⟩
            · rw [hoth i hi y, ← hI.st i hi]
              constructor
              · rintro ⟨j, hj, ej⟩
                by_cases y2 : j = q'
                · subst y2; rw [updN_s] at ej; exact absurd ej.symm y
                · rw [updN_n y2] at ej; exact ⟨j, by omega, ej⟩
              · rintro ⟨j, hj, ej⟩
                exact ⟨j, by omega, by rw [updN_n (by omega)]; exact ej⟩
      · have hwl := hI.wl
        rw [nI_mx (by omega) (by omega)]
        have hd := hdsame (fun i hi q => by
          rw [hed, hx] at q
          rw [Option.some.inj q] at hw
          exact F.bw i hi hw)
        refine hk (q', ps', setB pr' (6 * ps p + c), fv', max wv' (fv (ps p) + 1), far', wi', se') ⟨⟨c1, c2, c3⟩, hI.pb, hI.pi, hI.se, hprS, fun i hi => by rw [hd i hi]; exact hI.wi i hi, fun i hi => by rw [hd i hi]; exact hI.st i hi, hI.fa, hI.f1, hI.fl, fun e he hpe i hi hei => ?_, Nat.le_trans hI.wg (Nat.le_max_left _ _), Nat.max_le.mpr ⟨hwl, by omega⟩, ?_, fun e he hpe y hey hyn hyw => ?_⟩
        · rcases hset e hpe with y | y
          · subst y
            rw [hed, hx] at hei
            rw [Option.some.inj hei] at hw
            exact absurd hw (F.bw i hi)
          · exact hI.fe e he y i hi hei
        · rcases Nat.le_total wv' (fv (ps p) + 1) with z | z
          · refine Or.inr ⟨fv (ps p), bt (ps p), x, Nat.max_eq_right z, ?_, hE, hxn, hw⟩
            rw [hm0]; exact hN0
          · dsimp only; rw [Nat.max_eq_left z]; exact hI.wa
        · rcases hset e hpe with z | z
          · subst z
            dsimp only
            rw [show (6 * ps p + c) / 6 = ps p by omega, c3]
            exact Nat.le_max_right _ _
          · exact Nat.le_trans (hI.we e he z y hey hyn hyw) (Nat.le_max_left _ _)