/-! A rule is added to a mode -/
theorem wlF_snoc {mo ls : Nat → Int32} {M : Nat} {s : Int32} : ∀ d i, i + d < 2 ^ 31 → wlF mo ls M s (d + 1) i = (if wlF mo ls M s d i = -1 then (if mo (i + d) = nI M ∧ ¬ s &&& ls (i + d) = 0 then nI (i + d) else -1) else wlF mo ls M s d i) := by
  intro d
  induction d with
  | zero =>
    intro i hi
    show (if mo i = nI M ∧ ¬ s &&& ls i = 0 then nI i else -1) = (if (-1 : Int32) = -1 then _ else _)
    rw [if_pos rfl, Nat.add_zero]
  | succ d ih =>
    intro i hi
    have e1 : wlF mo ls M s (d + 1 + 1) i = (if mo i = nI M ∧ ¬ s &&& ls i = 0 then nI i else wlF mo ls M s (d + 1) (i + 1)) := rfl
    have e2 : wlF mo ls M s (d + 1) i = (if mo i = nI M ∧ ¬ s &&& ls i = 0 then nI i else wlF mo ls M s d (i + 1)) := rfl
    rw [e1, e2]
    by_cases c : mo i = nI M ∧ ¬ s &&& ls i = 0
    · rw [if_pos c, if_pos c, if_neg (nI_nm1 (by omega))]
    · rw [if_neg c, if_neg c, ih (i + 1) (by omega), show i + 1 + d = i + (d + 1) by omega]
theorem wlF_congr {mo ls mo' ls' : Nat → Int32} {M : Nat} {s : Int32} : ∀ d i, (∀ r, i ≤ r → r < i + d → mo r = mo' r ∧ ls r = ls' r) → wlF mo ls M s d i = wlF mo' ls' M s d i := by
  intro d
  induction d with
  | zero => intro i _; rfl
  | succ d ih =>
    intro i h
    show (if mo i = nI M ∧ ¬ s &&& ls i = 0 then nI i else wlF mo ls M s d (i + 1)) = (if mo' i = nI M ∧ ¬ s &&& ls' i = 0 then nI i else wlF mo' ls' M s d (i + 1))
    rw [(h i (Nat.le_refl _) (by omega)).1, (h i (Nat.le_refl _) (by omega)).2, ih (i + 1) (fun r h1 h2 => h r (by omega) (by omega))]
theorem frF_congr {mo fs mo' fs' : Nat → Int32} {M : Nat} : ∀ R, (∀ r, r < R → mo r = mo' r ∧ fs r = fs' r) → frF mo fs M R = frF mo' fs' M R := by
  intro R
  induction R with
  | zero => intro _; rfl
  | succ R ih =>
    intro h
    show (if mo R = nI M then frF mo fs M R ||| fs R else frF mo fs M R) = (if mo' R = nI M then frF mo' fs' M R ||| fs' R else frF mo' fs' M R)
    rw [(h R (by omega)).1, (h R (by omega)).2, ih (fun r hr => h r (by omega))]
theorem winF_app {ru : Nat → Int32} {x : Int32} {rr : Nat} : ∀ d e i, (∀ p, i ≤ p → p < i + d → ∃ r, r < 16 ∧ ru p = nI r) → (∀ p, i + d ≤ p → p < i + d + e → ru p = nI rr) → winF ru x (d + e) i = (if winF ru x d i = -1 then winF ru x e (i + d) else winF ru x d i) := by
  intro d
  induction d with
  | zero =>
    intro e i _ _
    rw [Nat.zero_add, Nat.add_zero, show winF ru x 0 i = -1 from rfl, if_pos rfl]
  | succ d ih =>
    intro e i h1 h2
    rw [show d + 1 + e = d + e + 1 by omega]
    show (if tb x i then ru i else winF ru x (d + e) (i + 1)) = _
    have e2 : winF ru x (d + 1) i = (if tb x i then ru i else winF ru x d (i + 1)) := rfl
    rw [e2]
    by_cases c : tb x i = true
    · rw [if_pos c, if_pos c]
      obtain ⟨r, hr, er⟩ := h1 i (Nat.le_refl _) (by omega)
      rw [er, if_neg (nI_nm1 (by omega))]
    · rw [if_neg c, if_neg c, ih e (i + 1) (fun p a b => h1 p (by omega) (by omega)) (fun p a b => h2 p (by omega) (by omega)), show i + 1 + d = i + (d + 1) by omega]
theorem winF_one {ru : Nat → Int32} {x : Int32} {R : Nat} : ∀ e i, (∀ p, i ≤ p → p < i + e → ru p = nI R) → ((∃ p, i ≤ p ∧ p < i + e ∧ tb x p = true) → winF ru x e i = nI R) ∧ ((¬ ∃ p, i ≤ p ∧ p < i + e ∧ tb x p = true) → winF ru x e i = -1) := by
  intro e
  induction e with
  | zero => intro i _; exact ⟨fun ⟨p, a, b, _⟩ => by omega, fun _ => rfl⟩
  | succ e ih =>
    intro i h
    have e0 : winF ru x (e + 1) i = (if tb x i then ru i else winF ru x e (i + 1)) := rfl
    rw [e0]
    obtain ⟨i1, i2⟩ := ih (i + 1) (fun p a b => h p (by omega) (by omega))
    by_cases c : tb x i = true
    · rw [if_pos c]
      exact ⟨fun _ => h i (Nat.le_refl _) (by omega), fun q => absurd ⟨i, Nat.le_refl _, by omega, c⟩ q⟩
    · rw [if_neg c]
      refine ⟨fun ⟨p, a, b, d⟩ => i1 ?_, fun q => i2 (fun ⟨p, a, b, d⟩ => q ⟨p, by omega, by omega, d⟩)⟩
      by_cases y : p = i
      · subst y; exact absurd d c
      · exact ⟨p, by omega, by omega, d⟩
theorem winF_congr {ru ru' : Nat → Int32} {x x' : Int32} : ∀ d i, (∀ p, i ≤ p → p < i + d → tb x p = tb x' p ∧ ru p = ru' p) → winF ru x d i = winF ru' x' d i := by
  intro d
  induction d with
  | zero => intro i _; rfl
  | succ d ih =>
    intro i h
    show (if tb x i then ru i else winF ru x d (i + 1)) = (if tb x' i then ru' i else winF ru' x' d (i + 1))
    rw [(h i (Nat.le_refl _) (by omega)).1, (h i (Nat.le_refl _) (by omega)).2, ih (i + 1) (fun p a b => h p (by omega) (by omega))]
/-- the mode with a rule more -/
def MdAdd (D D' : Md) (S : TS) (R : Nat) : Prop :=
  (D'.P = D.P + S.q) ∧
  (∀ p, p < D.P → D'.lt p = D.lt p) ∧
  (∀ p, p < D.P → D'.fo p = D.fo p) ∧
  (∀ p, p < D.P → D'.ru p = D.ru p) ∧
  (∀ i, i < S.q → D'.lt (D.P + i) = S.lt i) ∧
  (∀ i, i < S.q → D'.fo (D.P + i) = S.fo i <<< (nI D.P &&& 31)) ∧
  (∀ i, i < S.q → D'.ru (D.P + i) = nI R) ∧
  (D'.fi = D.fi ||| ((S.ch 0).1 <<< (nI D.P &&& 31))) ∧
  (D'.la = D.la ||| ((S.ch 0).2.1 <<< (nI D.P &&& 31)))
theorem MdAdd.P {D D' : Md} {S : TS} {R : Nat} (h_ : MdAdd D D' S R) : D'.P = D.P + S.q := h_.1
theorem MdAdd.lt {D D' : Md} {S : TS} {R : Nat} (h_ : MdAdd D D' S R) : ∀ p, p < D.P → D'.lt p = D.lt p := h_.2.1
theorem MdAdd.fo {D D' : Md} {S : TS} {R : Nat} (h_ : MdAdd D D' S R) : ∀ p, p < D.P → D'.fo p = D.fo p := h_.2.2.1
theorem MdAdd.ru {D D' : Md} {S : TS} {R : Nat} (h_ : MdAdd D D' S R) : ∀ p, p < D.P → D'.ru p = D.ru p := h_.2.2.2.1
theorem MdAdd.lt2 {D D' : Md} {S : TS} {R : Nat} (h_ : MdAdd D D' S R) : ∀ i, i < S.q → D'.lt (D.P + i) = S.lt i := h_.2.2.2.2.1
theorem MdAdd.fo2 {D D' : Md} {S : TS} {R : Nat} (h_ : MdAdd D D' S R) : ∀ i, i < S.q → D'.fo (D.P + i) = S.fo i <<< (nI D.P &&& 31) := h_.2.2.2.2.2.1
theorem MdAdd.ru2 {D D' : Md} {S : TS} {R : Nat} (h_ : MdAdd D D' S R) : ∀ i, i < S.q → D'.ru (D.P + i) = nI R := h_.2.2.2.2.2.2.1
theorem MdAdd.fi {D D' : Md} {S : TS} {R : Nat} (h_ : MdAdd D D' S R) : D'.fi = D.fi ||| ((S.ch 0).1 <<< (nI D.P &&& 31)) := h_.2.2.2.2.2.2.2.1
theorem MdAdd.la {D D' : Md} {S : TS} {R : Nat} (h_ : MdAdd D D' S R) : D'.la = D.la ||| ((S.ch 0).2.1 <<< (nI D.P &&& 31)) := h_.2.2.2.2.2.2.2.2

/-- no last place beyond those there are -/
def LaB (D : Md) : Prop := ∀ p, D.P ≤ p → tb D.la p = false
theorem MdAdd.ok {D D' : Md} {S : TS} {R : Nat} (h : MdAdd D D' S R) (hD : DOk D) (h9 : D.P + S.q ≤ 9) (hR : R < 16) : DOk D' := by
  refine ⟨by rw [h.P]; exact h9, fun p hp => ?_⟩
  rw [h.P] at hp
  by_cases y : p < D.P
  · rw [h.ru p y]; exact hD.ru p y
  · have := h.ru2 (p - D.P) (by omega)
    rw [show D.P + (p - D.P) = p by omega] at this
    exact ⟨R, hR, this⟩
theorem MdAdd.lab {D D' : Md} {S : TS} {R : Nat} (h : MdAdd D D' S R) (hl : LaB D) (h9 : D.P + S.q ≤ 9) (hb : ∀ p, S.q ≤ p → tb (S.ch 0).2.1 p = false) : LaB D' := fun p hp => by
  rw [h.P] at hp
  rw [h.la, tb_or, hl p (by omega), tb_shl _ (by omega), hb (p - D.P) (by omega)]
  simp
theorem MdAdd.win {D D' : Md} {S : TS} {R : Nat} (h : MdAdd D D' S R) (hD : DOk D) (hl : LaB D) (h9 : D.P + S.q ≤ 9) (hR : R < 16) (hb : ∀ p, S.q ≤ p → tb (S.ch 0).2.1 p = false) (s : Int32) : D'.win s = (if D.win s = -1 then (if ¬ s &&& ((S.ch 0).2.1 <<< (nI D.P &&& 31)) = 0 then nI R else -1) else D.win s) := by
  have hP9 := hD.hP
  have hsh : ∀ p, tb ((S.ch 0).2.1 <<< (nI D.P &&& 31)) p = (decide (p < 32) && !decide (p < D.P) && tb (S.ch 0).2.1 (p - D.P)) := fun p => tb_shl _ (by omega) p
  unfold Md.win
  rw [h.P, winF_app (rr := R) D.P S.q 0 (fun p _ hp => by rw [h.ru p (by omega)]; exact hD.ru p (by omega)) (fun p a b => by
    have := h.ru2 (p - D.P) (by omega)
    rw [show D.P + (p - D.P) = p by omega] at this
    exact this)]
  have e1 : winF D'.ru (s &&& D'.la) D.P 0 = winF D.ru (s &&& D.la) D.P 0 := winF_congr D.P 0 (fun p _ hp => by
    refine ⟨?_, h.ru p (by omega)⟩
    rw [tb_and, tb_and, h.la, tb_or, hsh p]
    have : decide (p < D.P) = true := decide_eq_true (by omega)
    rw [this]
    try simp)
  obtain ⟨w1, w2⟩ := winF_one (ru := D'.ru) (x := s &&& D'.la) (R := R) S.q (0 + D.P) (fun p a b => by
    have := h.ru2 (p - D.P) (by omega)
    rw [show D.P + (p - D.P) = p by omega] at this
    exact this)
  rw [e1]
  have hiff : (∃ p, 0 + D.P ≤ p ∧ p < 0 + D.P + S.q ∧ tb (s &&& D'.la) p = true) ↔ ¬ s &&& ((S.ch 0).2.1 <<< (nI D.P &&& 31)) = 0 := by
    constructor
    · rintro ⟨p, a, b, c⟩ e
      have : tb (s &&& ((S.ch 0).2.1 <<< (nI D.P &&& 31))) p = true := by
        rw [tb_and, h.la, tb_or, hl p (by omega), Bool.false_or] at c
        rw [tb_and]; exact c
      rw [e, tb_0] at this; cases this
    · intro hne
      apply Classical.byContradiction
      intro hno
      refine hne (tb_ext fun p hp => ?_)
      rw [tb_0]
      cases e : tb (s &&& ((S.ch 0).2.1 <<< (nI D.P &&& 31))) p with
      | false => rfl
      | true =>
        exfalso
        rw [tb_and, hsh p] at e
        have e' := e
        simp only [Bool.and_eq_true, decide_eq_true_eq, Bool.not_eq_true', decide_eq_false_iff_not] at e
        obtain ⟨e1, ⟨e2, e3⟩, e4⟩ := e
        have hq : p - D.P < S.q := by
          rcases Nat.lt_or_ge (p - D.P) S.q with y | y
          · exact y
          · rw [hb _ y] at e4; cases e4
        refine hno ⟨p, by omega, by omega, ?_⟩
        rw [tb_and, h.la, tb_or, hl p (by omega), Bool.false_or, hsh p]
        exact e'
  by_cases c : ¬ s &&& ((S.ch 0).2.1 <<< (nI D.P &&& 31)) = 0
  · rw [w1 (hiff.mpr c), if_pos c]
  · rw [w2 (fun q => c (hiff.mp q)), if_neg c]
theorem RefMd.add {D D' : Md} {S : TS} {M R : Nat} {many lt be mo fs ls many' lt' be' : Nat → Int32} (H : RefMd D M R many lt be mo fs ls) (h : MdAdd D D' S R) (hD : DOk D) (hl : LaB D) (h9 : D.P + S.q ≤ 9) (hR : R < 16) (hb : ∀ p, S.q ≤ p → tb (S.ch 0).2.1 p = false)
    (hmany : many' M = nI (D.P + S.q)) (hlt : ∀ p, p < D.P → lt' (9 * M + p) = lt (9 * M + p)) (hbe : ∀ p, p < D.P → be' (9 * M + p) = be (9 * M + p)) (hlt2 : ∀ i, i < S.q → lt' (9 * M + (D.P + i)) = S.lt i) (hbe2 : ∀ i, i < S.q → be' (9 * M + (D.P + i)) = S.fo i <<< (nI D.P &&& 31)) :
    RefMd D' M (R + 1) many' lt' be' (upd mo R (nI M)) (upd fs R ((S.ch 0).1 <<< (nI D.P &&& 31))) (upd ls R ((S.ch 0).2.1 <<< (nI D.P &&& 31))) := by
  refine ⟨by rw [h.P]; exact h9, H.hM, by omega, by rw [h.P]; exact hmany, fun p hp => ?_, fun p hp => ?_, ?_, fun s hs => ?_⟩
  · rw [h.P] at hp
    by_cases y : p < D.P
    · rw [hlt p y, h.lt p y]; exact H.lt p y
    · have e := hlt2 (p - D.P) (by omega)
      have e2 := h.lt2 (p - D.P) (by omega)
      rw [show D.P + (p - D.P) = p by omega] at e e2
      rw [e, e2]
  · rw [h.P] at hp
    by_cases y : p < D.P
    · rw [hbe p y, h.fo p y]; exact H.fo p y
    · have e := hbe2 (p - D.P) (by omega)
      have e2 := h.fo2 (p - D.P) (by omega)
      rw [show D.P + (p - D.P) = p by omega] at e e2
      rw [e, e2]
  · show (if upd mo R (nI M) R = nI M then frF (upd mo R (nI M)) (upd fs R _) M R ||| upd fs R _ R else _) = D'.fi
    rw [pk_us, if_pos rfl, pk_us, h.fi, frF_congr (mo' := mo) (fs' := fs) R (fun r hr => ⟨pk_un (by omega), pk_un (by omega)⟩), H.fi]
  · rw [wlF_snoc R 0 (by omega), Nat.zero_add, pk_us, pk_us, wlF_congr (mo' := mo) (ls' := ls) R 0 (fun r _ hr => ⟨pk_un (by omega), pk_un (by omega)⟩), H.win s hs, h.win hD hl h9 hR hb s]
    by_cases c : D.win s = -1
    · rw [if_pos c, if_pos c]
      by_cases y : ¬ s &&& ((S.ch 0).2.1 <<< (nI D.P &&& 31)) = 0
      · rw [if_pos ⟨rfl, y⟩, if_pos y]
      · rw [if_neg (fun q => y q.2), if_neg y]
    · rw [if_neg c, if_neg c]
theorem RefMd.other {D : Md} {M M' R : Nat} {many lt be mo fs ls many' lt' be' : Nat → Int32} (H : RefMd D M' R many lt be mo fs ls) (hne : M' ≠ M) (hM : M < 3) (hR : R < 16) {f l : Int32} (hmany : many' M' = many M') (hlt : ∀ p, p < 9 → lt' (9 * M' + p) = lt (9 * M' + p)) (hbe : ∀ p, p < 9 → be' (9 * M' + p) = be (9 * M' + p)) : RefMd D M' (R + 1) many' lt' be' (upd mo R (nI M)) (upd fs R f) (upd ls R l) := by
  have hP := H.hP
  have hM' := H.hM
  have hmm : ¬ nI M = nI M' := fun q => hne ((nI_eq (by omega) (by omega)).mp q).symm
  refine ⟨H.hP, H.hM, by omega, by rw [hmany]; exact H.many, fun p hp => by rw [hlt p (by omega)]; exact H.lt p hp, fun p hp => by rw [hbe p (by omega)]; exact H.fo p hp, ?_, fun s hs => ?_⟩
  · show (if upd mo R (nI M) R = nI M' then _ else frF (upd mo R (nI M)) (upd fs R f) M' R) = D.fi
    rw [pk_us, if_neg hmm, frF_congr (mo' := mo) (fs' := fs) R (fun r hr => ⟨pk_un (by omega), pk_un (by omega)⟩), H.fi]
  · rw [wlF_snoc R 0 (by omega), Nat.zero_add, pk_us, if_neg (fun (q : nI M = nI M' ∧ _) => hmm q.1), wlF_congr (mo' := mo) (ls' := ls) R 0 (fun r _ hr => ⟨pk_un (by omega), pk_un (by omega)⟩), H.win s hs]
    split
    · rename_i q; exact q.symm
    · rfl
