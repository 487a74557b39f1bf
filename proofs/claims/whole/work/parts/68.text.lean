/-! The text of a rule, apart from both programs -/
abbrev Pc := Int32 × Int32 × Int32
def thenP (a b : Pc) : Pc := (if a.2.2 = 0 then a.1 else a.1 ||| b.1, if b.2.2 = 0 then b.2.1 else a.2.1 ||| b.2.1, if a.2.2 = 0 ∨ b.2.2 = 0 then 0 else 1)
def orP (a b : Pc) : Pc := (a.1 ||| b.1, a.2.1 ||| b.2.1, if a.2.2 = 0 ∧ b.2.2 = 0 then 0 else 1)
def upF {α : Type} (f : Nat → α) (k : Nat) (x : α) : Nat → α := fun j => if j = k then x else f j
theorem upF_s {α : Type} {f : Nat → α} {k : Nat} {x : α} : upF f k x k = x := if_pos rfl
theorem upF_n {α : Type} {f : Nat → α} {k j : Nat} {x : α} (h : j ≠ k) : upF f k x j = f j := if_neg h
def TS : Type := (Nat) × (Nat) × (Nat → Int32) × (Nat → Int32) × (Nat → Pc) × (Nat → Pc) × (Nat → Option Pc)
def TS.mk (d : Nat) (q : Nat) (lt : Nat → Int32) (fo : Nat → Int32) (ch : Nat → Pc) (sq : Nat → Pc) (pt : Nat → Option Pc) : TS := (d, q, lt, fo, ch, sq, pt)
def TS.d : TS → Nat := fun (x : (Nat) × (Nat) × (Nat → Int32) × (Nat → Int32) × (Nat → Pc) × (Nat → Pc) × (Nat → Option Pc)) => x.1
def TS.q : TS → Nat := fun (x : (Nat) × (Nat) × (Nat → Int32) × (Nat → Int32) × (Nat → Pc) × (Nat → Pc) × (Nat → Option Pc)) => x.2.1
def TS.lt : TS → (Nat → Int32) := fun (x : (Nat) × (Nat) × (Nat → Int32) × (Nat → Int32) × (Nat → Pc) × (Nat → Pc) × (Nat → Option Pc)) => x.2.2.1
def TS.fo : TS → (Nat → Int32) := fun (x : (Nat) × (Nat) × (Nat → Int32) × (Nat → Int32) × (Nat → Pc) × (Nat → Pc) × (Nat → Option Pc)) => x.2.2.2.1
def TS.ch : TS → (Nat → Pc) := fun (x : (Nat) × (Nat) × (Nat → Int32) × (Nat → Int32) × (Nat → Pc) × (Nat → Pc) × (Nat → Option Pc)) => x.2.2.2.2.1
def TS.sq : TS → (Nat → Pc) := fun (x : (Nat) × (Nat) × (Nat → Int32) × (Nat → Int32) × (Nat → Pc) × (Nat → Pc) × (Nat → Option Pc)) => x.2.2.2.2.2.1
def TS.pt : TS → (Nat → Option Pc) := fun (x : (Nat) × (Nat) × (Nat → Int32) × (Nat → Int32) × (Nat → Pc) × (Nat → Pc) × (Nat → Option Pc)) => x.2.2.2.2.2.2

def linkF (q : Nat) (x y : Int32) (fo : Nat → Int32) : Nat → Int32 := fun p => if p < q ∧ tb x p = true then fo p ||| y else fo p
/-- the part under way joins its sequence -/
def joinT (S : TS) : TS := match S.pt S.d with
  | none => S
  | some P => TS.mk S.d S.q S.lt (linkF S.q (S.sq S.d).2.1 P.1 S.fo) S.ch (upF S.sq S.d (thenP (S.sq S.d) P)) (upF S.pt S.d none)
def addT (S : TS) (P : Pc) : TS := TS.mk (joinT S).d (joinT S).q (joinT S).lt (joinT S).fo (joinT S).ch (joinT S).sq (upF (joinT S).pt S.d (some P))
def endT (S : TS) : TS := TS.mk (joinT S).d (joinT S).q (joinT S).lt (joinT S).fo (upF S.ch S.d (orP (S.ch S.d) ((joinT S).sq S.d))) (upF (joinT S).sq S.d (0, 0, 1)) (joinT S).pt
def placeT (S : TS) (b : Int32) : TS := addT (TS.mk S.d (S.q + 1) (upF S.lt S.q b) (upF S.fo S.q 0) S.ch S.sq S.pt) ((1 : Int32) <<< (nI S.q &&& 31), (1 : Int32) <<< (nI S.q &&& 31), 0)
def openT (S : TS) : TS := TS.mk (S.d + 1) S.q S.lt S.fo (upF S.ch (S.d + 1) (0, 0, 0)) (upF S.sq (S.d + 1) (0, 0, 1)) (upF S.pt (S.d + 1) none)
def closeT (S : TS) : TS := addT (TS.mk (S.d - 1) (endT S).q (endT S).lt (endT S).fo (endT S).ch (endT S).sq (endT S).pt) ((endT S).ch S.d)
def repT (S : TS) (P : Pc) (plus ask : Bool) : TS := TS.mk S.d S.q S.lt (if ask then S.fo else linkF S.q P.2.1 P.1 S.fo) S.ch S.sq (if plus then S.pt else upF S.pt S.d (some (P.1, P.2.1, 1)))
theorem join_d (S : TS) : (joinT S).d = S.d ∧ (joinT S).q = S.q ∧ (joinT S).lt = S.lt ∧ (joinT S).ch = S.ch := by
  unfold joinT
  split <;> exact ⟨rfl, rfl, rfl, rfl⟩
theorem join_pt (S : TS) : (joinT S).pt S.d = none := by
  unfold joinT
  split
  · assumption
  · exact upF_s
/-! the program -/
/-- a piece at an address of the pool -/
def At (LP : List Nat) (PF : Nat → Pc) (o : Option Nat) (P : Pc) : Prop := ∃ a, o = some a ∧ a ∈ LP ∧ PF a = P
def AtO (LP : List Nat) (PF : Nat → Pc) (o : Option Nat) : Option Pc → Prop
  | none => o = none
  | some P => At LP PF o P
/-- the program's reader holds S -/
def CTx (S : TS) (noW emW : Nat) (dp pl : Int32) (ch sq pt : Nat → Option Nat) (fo lt : Nat → Int32) (LP : List Nat) (PF : Nat → Pc) : Prop :=
  (S.d ≤ 4) ∧
  (dp = nI S.d) ∧
  (pl = nI S.q) ∧
  (∀ e, e ≤ S.d → At LP PF (ch e) (S.ch e)) ∧
  (∀ e, e ≤ S.d → At LP PF (sq e) (S.sq e)) ∧
  (∀ e, e ≤ S.d → AtO LP PF (pt e) (S.pt e)) ∧
  (∀ p, p < S.q → fo p = S.fo p) ∧
  (∀ p, p < S.q → lt p = S.lt p) ∧
  (noW ∈ LP ∧ PF noW = (0, 0, 0)) ∧
  (emW ∈ LP ∧ PF emW = (0, 0, 1))
theorem CTx.d4 {S : TS} {noW emW : Nat} {dp pl : Int32} {ch sq pt : Nat → Option Nat} {fo lt : Nat → Int32} {LP : List Nat} {PF : Nat → Pc} (h_ : CTx S noW emW dp pl ch sq pt fo lt LP PF) : S.d ≤ 4 := h_.1
theorem CTx.dp {S : TS} {noW emW : Nat} {dp pl : Int32} {ch sq pt : Nat → Option Nat} {fo lt : Nat → Int32} {LP : List Nat} {PF : Nat → Pc} (h_ : CTx S noW emW dp pl ch sq pt fo lt LP PF) : dp = nI S.d := h_.2.1
theorem CTx.pl {S : TS} {noW emW : Nat} {dp pl : Int32} {ch sq pt : Nat → Option Nat} {fo lt : Nat → Int32} {LP : List Nat} {PF : Nat → Pc} (h_ : CTx S noW emW dp pl ch sq pt fo lt LP PF) : pl = nI S.q := h_.2.2.1
theorem CTx.ch {S : TS} {noW emW : Nat} {dp pl : Int32} {ch sq pt : Nat → Option Nat} {fo lt : Nat → Int32} {LP : List Nat} {PF : Nat → Pc} (h_ : CTx S noW emW dp pl ch sq pt fo lt LP PF) : ∀ e, e ≤ S.d → At LP PF (ch e) (S.ch e) := h_.2.2.2.1
theorem CTx.sq {S : TS} {noW emW : Nat} {dp pl : Int32} {ch sq pt : Nat → Option Nat} {fo lt : Nat → Int32} {LP : List Nat} {PF : Nat → Pc} (h_ : CTx S noW emW dp pl ch sq pt fo lt LP PF) : ∀ e, e ≤ S.d → At LP PF (sq e) (S.sq e) := h_.2.2.2.2.1
theorem CTx.pt {S : TS} {noW emW : Nat} {dp pl : Int32} {ch sq pt : Nat → Option Nat} {fo lt : Nat → Int32} {LP : List Nat} {PF : Nat → Pc} (h_ : CTx S noW emW dp pl ch sq pt fo lt LP PF) : ∀ e, e ≤ S.d → AtO LP PF (pt e) (S.pt e) := h_.2.2.2.2.2.1
theorem CTx.fo {S : TS} {noW emW : Nat} {dp pl : Int32} {ch sq pt : Nat → Option Nat} {fo lt : Nat → Int32} {LP : List Nat} {PF : Nat → Pc} (h_ : CTx S noW emW dp pl ch sq pt fo lt LP PF) : ∀ p, p < S.q → fo p = S.fo p := h_.2.2.2.2.2.2.1
theorem CTx.lt {S : TS} {noW emW : Nat} {dp pl : Int32} {ch sq pt : Nat → Option Nat} {fo lt : Nat → Int32} {LP : List Nat} {PF : Nat → Pc} (h_ : CTx S noW emW dp pl ch sq pt fo lt LP PF) : ∀ p, p < S.q → lt p = S.lt p := h_.2.2.2.2.2.2.2.1
theorem CTx.noW {S : TS} {noW emW : Nat} {dp pl : Int32} {ch sq pt : Nat → Option Nat} {fo lt : Nat → Int32} {LP : List Nat} {PF : Nat → Pc} (h_ : CTx S noW emW dp pl ch sq pt fo lt LP PF) : noW ∈ LP ∧ PF noW = (0, 0, 0) := h_.2.2.2.2.2.2.2.2.1
theorem CTx.emW {S : TS} {noW emW : Nat} {dp pl : Int32} {ch sq pt : Nat → Option Nat} {fo lt : Nat → Int32} {LP : List Nat} {PF : Nat → Pc} (h_ : CTx S noW emW dp pl ch sq pt fo lt LP PF) : emW ∈ LP ∧ PF emW = (0, 0, 1) := h_.2.2.2.2.2.2.2.2.2

theorem At.grow {LP : List Nat} {PF : Nat → Pc} {o : Option Nat} {P : Pc} (h : At LP PF o P) {q : Nat} (hq : q ∉ LP) {Q : Pc} : At (LP ++ [q]) (va_up PF q Q) o P := by
  obtain ⟨a, e, hm, hP⟩ := h
  refine ⟨a, e, List.mem_append_left _ hm, ?_⟩
  have : a ≠ q := fun z => hq (z ▸ hm)
  show (if a = q then Q else PF a) = P
  rw [if_neg this]; exact hP
theorem AtO.grow {LP : List Nat} {PF : Nat → Pc} {o : Option Nat} {P : Option Pc} (h : AtO LP PF o P) {q : Nat} (hq : q ∉ LP) {Q : Pc} : AtO (LP ++ [q]) (va_up PF q Q) o P := by
  cases P with
  | none => exact h
  | some P => exact At.grow h hq
theorem At.new {LP : List Nat} {PF : Nat → Pc} {q : Nat} {Q : Pc} : At (LP ++ [q]) (va_up PF q Q) (some q) Q := ⟨q, rfl, List.mem_append_right _ (List.mem_singleton.mpr rfl), if_pos rfl⟩
theorem vu_s {α : Type} {f : Nat → α} {k : Nat} {x : α} : va_up f k x k = x := if_pos rfl
theorem vu_n {α : Type} {f : Nat → α} {k j : Nat} {x : α} (h : j ≠ k) : va_up f k x j = f j := if_neg h
theorem q_link {q : Nat} (hq : q ≤ 24) {fo fo' : Nat → Int32} (hf : ∀ p, p < q → fo p = fo' p) {x y : Int32} {post : (Nat → Int32) → Prop} (h : ∀ g, (∀ p, p < q → g p = linkF q x y fo' p) → post g) : p_RuleText_link (nI q) fo x y post := by
  refine pk_loop (fun n i g => p_RuleText_link_2 (nI q) x y post n (nI i) g) (fun i g => (∀ p, p < i → g p = linkF q x y fo' p) ∧ ∀ p, i ≤ p → p < q → g p = fo' p) q 0 fo (Nat.zero_le _) ⟨fun p hp => absurd hp (Nat.not_lt_zero _), fun p _ hp => hf p hp⟩ ?_ ?_
  · intro n g hI
    exact ⟨fun _ => h g hI.1, fun z => absurd (nI_le (Nat.le_refl _) (by omega)) z⟩
  · intro n i g hi hI hk
    refine ⟨fun z => absurd z (nI_ge hi (by omega)), fun _ => ?_⟩
    have hiv : vp_in (nI i) 24 := vp_in_nI (by omega) (by omega)
    rw [nI_clamp (n := i) (by omega), nI_1]
    refine ⟨fun z => hk g ⟨fun p hp => ?_, fun p h1 h2 => hI.2 p (by omega) h2⟩, fun z => ?_⟩
    · by_cases e : p = i
      · subst e
        rw [hI.2 p (Nat.le_refl _) hi]
        unfold linkF
        rw [if_neg]
        rw [tb_t0 x (by omega)] at z
        simp [z]
      · exact hI.1 p (by omega)
    · refine ⟨hiv, hiv, hk _ ⟨fun p hp => ?_, fun p h1 h2 => ?_⟩⟩
      · by_cases e : p = i
        · subst e
          rw [pk_us, hI.2 p (Nat.le_refl _) hi]
          unfold linkF
          rw [if_pos]
          rw [tb_t0 x (by omega)] at z
          exact ⟨hi, by simpa using z⟩
        · rw [pk_un e]; exact hI.1 p (by omega)
      · rw [pk_un (by omega)]; exact hI.2 p (by omega) h2
theorem q_then {a b : Pc} {post : Int32 → Int32 → Int32 → Prop} (h : post (thenP a b).1 (thenP a b).2.1 (thenP a b).2.2) : p_Piece_then a.1 a.2.1 a.2.2 b.1 b.2.1 b.2.2 post := by
  unfold thenP at h
  dsimp only at h
  by_cases ha : a.2.2 = 0 <;> by_cases hb : b.2.2 = 0 <;> simp only [ha, hb, if_true, if_false, or_true, or_self, true_or] at h <;> simp only [p_Piece_then, p_Piece_init, ha, hb, not_true_eq_false, false_implies, true_implies, not_false_eq_true, and_true, true_and] <;> first | exact h | exact ⟨Or.inl rfl, h⟩ | exact ⟨Or.inr rfl, h⟩ | (simp [bz]; exact h)
theorem q_or {a b : Pc} {post : Int32 → Int32 → Int32 → Prop} (h : post (orP a b).1 (orP a b).2.1 (orP a b).2.2) : p_Piece_or a.1 a.2.1 a.2.2 b.1 b.2.1 b.2.2 post := by
  unfold orP at h
  dsimp only at h
  by_cases ha : a.2.2 = 0 <;> by_cases hb : b.2.2 = 0 <;> simp only [ha, hb, if_true, if_false, and_true, and_self, and_false, false_and, true_and] at h <;> simp only [p_Piece_or, p_Piece_init, ha, hb, not_true_eq_false, false_implies, true_implies, not_false_eq_true, and_true, true_and] <;> first | exact h | exact ⟨Or.inl rfl, h⟩ | exact ⟨Or.inr rfl, h⟩ | (simp [bz]; exact h)
