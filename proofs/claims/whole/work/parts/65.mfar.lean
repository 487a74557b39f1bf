/-! The reference: how far a difference lies -/
def hasb (f : Nat → Int32) (p : Nat) : Bool := tb (f (p / 32)) (p % 32)
theorem dv32 {p : Nat} (h : p < 2 ^ 31) : nI p / 32 = nI (p / 32) := pk_div (d := 32) h (by omega) (by omega)
theorem md32 {p : Nat} (h : p < 2 ^ 31) : nI p - nI p / 32 * 32 = nI (p % 32) := pk_rem (d := 32) h (by omega) (by omega)
theorem q_M_has {f : Nat → Int32} {p : Nat} (hp : p < 265280) {post : Int32 → Prop} (h0 : hasb f p = false → post 0) (h1 : hasb f p = true → post 1) : p_M_has 8290 f (nI p) post := by
  unfold p_M_has
  rw [md32 (by omega), dv32 (by omega), nI_clamp (by omega)]
  refine ⟨vp_in_nI (by omega) (by omega), fun z => h0 ?_, fun z => h1 ?_⟩
  · rw [tb_t1 _ (by omega)] at z
    unfold hasb
    simpa using z
  · rw [tb_t1 _ (by omega)] at z
    exact z
theorem q_M_put {f : Nat → Int32} {p : Nat} (hp : p < 265280) {post : (Nat → Int32) → Prop} (h : ∀ f', (∀ q, hasb f' q = true ↔ hasb f q = true ∨ q = p) → post f') : p_M_put 8290 f (nI p) post := by
  unfold p_M_put
  rw [md32 (by omega), dv32 (by omega), nI_clamp (by omega)]
  have hv : vp_in (nI (p / 32)) 8290 := vp_in_nI (by omega) (by omega)
  refine ⟨hv, hv, h _ (fun q => ?_)⟩
  unfold hasb
  by_cases e : q / 32 = p / 32
  · rw [e, pk_us, tb_or, tb_bit (by omega)]
    simp only [Bool.or_eq_true, decide_eq_true_eq]
    refine ⟨fun z => z.elim Or.inl (fun y => Or.inr (by omega)), fun z => z.elim Or.inl (fun y => Or.inr (by omega))⟩
  · rw [pk_un e]
    refine ⟨Or.inl, fun z => z.elim id (fun y => absurd (by rw [y]) e)⟩
/-- reached by a word of at most n letters -/
def Rc (fol : Nat → Nat → Nat) (p0 n p : Nat) : Prop := ∃ w, W6 w ∧ w.length ≤ n ∧ w.foldl fol p0 = p
theorem Rc.mono {fol : Nat → Nat → Nat} {p0 n m p : Nat} (h : Rc fol p0 n p) (hn : n ≤ m) : Rc fol p0 m p := by
  obtain ⟨w, h1, h2, h3⟩ := h
  exact ⟨w, h1, by omega, h3⟩
theorem Rc.step {fol : Nat → Nat → Nat} {p0 n p c : Nat} (h : Rc fol p0 n p) (hc : c < 6) : Rc fol p0 (n + 1) (fol p c) := by
  obtain ⟨w, h1, h2, h3⟩ := h
  refine ⟨w ++ [c], h1.snoc hc, by rw [List.length_append]; simp; omega, ?_⟩
  rw [List.foldl_append, h3]; rfl
theorem Rc.back {fol : Nat → Nat → Nat} {p0 n p : Nat} (h : Rc fol p0 (n + 1) p) : Rc fol p0 n p ∨ ∃ q c, Rc fol p0 n q ∧ c < 6 ∧ fol q c = p := by
  obtain ⟨w, h1, h2, h3⟩ := h
  by_cases e : w = []
  · subst e; exact Or.inl ⟨[], h1, Nat.zero_le _, h3⟩
  · have hw := List.dropLast_concat_getLast e
    right
    refine ⟨w.dropLast.foldl fol p0, w.getLast e, ⟨w.dropLast, fun c hc => h1 c ((List.dropLast_sublist w).subset hc), by rw [List.length_dropLast]; omega, rfl⟩, h1 _ (List.getLast_mem e), ?_⟩
    rw [← hw, List.foldl_append] at h3
    exact h3
/-- first reached by n letters -/
def Fr (fol : Nat → Nat → Nat) (p0 n p : Nat) : Prop := Rc fol p0 n p ∧ ∀ m, m < n → ¬ Rc fol p0 m p
def FarS (fol : Nat → Nat → Nat) (parts : Nat → Prop) (p : Nat) (r : Int32) : Prop := (r = -1 ∧ ∀ w, W6 w → ¬ parts (w.foldl fol p)) ∨ ∃ n, n < 2 ^ 30 ∧ r = nI n ∧ (∃ w, W6 w ∧ w.length = n ∧ parts (w.foldl fol p)) ∧ ∀ w, W6 w → parts (w.foldl fol p) → n ≤ w.length
/-- not seen yet -/
theorem unsX (f : Nat → Int32) : ∃ m, m = sumF (fun p => if hasb f p then 0 else 1) 265280 := ⟨_, rfl⟩
noncomputable def uns (f : Nat → Int32) : Nat := Classical.choose (unsX f)
theorem uns_eq (f : Nat → Int32) : uns f = sumF (fun p => if hasb f p then 0 else 1) 265280 := Classical.choose_spec (unsX f)
theorem uns_put {f f' : Nat → Int32} {p : Nat} (hp : p < 265280) (h0 : hasb f p = false) (h : ∀ q, hasb f' q = true ↔ hasb f q = true ∨ q = p) : uns f' + 1 = uns f := by
  have := @sum_upd (fun p => if hasb f p then 0 else 1) (fun p => if hasb f' p then 0 else 1) p 265280 hp (fun q hq => by
    have hh : hasb f' q = hasb f q := by
      cases e : hasb f q with
      | true => exact (h q).mpr (Or.inl e)
      | false =>
        cases e2 : hasb f' q with
        | false => rfl
        | true => exact absurd ((h q).mp e2) (by rw [e]; simp [hq])
    rw [hh])
  have h1 : hasb f' p = true := (h p).mpr (Or.inr rfl)
  simp only [h0, h1, if_true, Bool.false_eq_true, if_false] at this
  rw [uns_eq, uns_eq]
  omega
theorem uns_le (f : Nat → Int32) : uns f ≤ 265280 := by
  rw [uns_eq]
  exact sum_le (fun e => by split <;> omega) _
/-- far under way: level n, pairs below cur done, and c letters of cur -/
def FI (fol : Nat → Nat → Nat) (parts : Nat → Prop) (p0 n cur c : Nat) (an : Int32) (sn ah : Nat → Int32) : Prop :=
  (∀ p, p < 265280 → (hasb sn p = true ↔ Rc fol p0 n p ∨ ∃ q d, Fr fol p0 n q ∧ d < 6 ∧ (q < cur ∨ (q = cur ∧ d < c)) ∧ fol q d = p)) ∧
  (∀ p, p < 265280 → (hasb ah p = true ↔ ¬ Rc fol p0 n p ∧ ∃ q d, Fr fol p0 n q ∧ d < 6 ∧ (q < cur ∨ (q = cur ∧ d < c)) ∧ fol q d = p)) ∧
  (∀ q, q < cur → Fr fol p0 n q → ¬ parts q) ∧
  ((an = 0 ∧ ∀ p, p < 265280 → hasb ah p = false) ∨ (an = 1 ∧ ∃ p, p < 265280 ∧ hasb ah p = true))
theorem FI.sn {fol : Nat → Nat → Nat} {parts : Nat → Prop} {p0 n cur c : Nat} {an : Int32} {sn ah : Nat → Int32} (h_ : FI fol parts p0 n cur c an sn ah) : ∀ p, p < 265280 → (hasb sn p = true ↔ Rc fol p0 n p ∨ ∃ q d, Fr fol p0 n q ∧ d < 6 ∧ (q < cur ∨ (q = cur ∧ d < c)) ∧ fol q d = p) := h_.1
theorem FI.aa {fol : Nat → Nat → Nat} {parts : Nat → Prop} {p0 n cur c : Nat} {an : Int32} {sn ah : Nat → Int32} (h_ : FI fol parts p0 n cur c an sn ah) : ∀ p, p < 265280 → (hasb ah p = true ↔ ¬ Rc fol p0 n p ∧ ∃ q d, Fr fol p0 n q ∧ d < 6 ∧ (q < cur ∨ (q = cur ∧ d < c)) ∧ fol q d = p) := h_.2.1
theorem FI.np {fol : Nat → Nat → Nat} {parts : Nat → Prop} {p0 n cur c : Nat} {an : Int32} {sn ah : Nat → Int32} (h_ : FI fol parts p0 n cur c an sn ah) : ∀ q, q < cur → Fr fol p0 n q → ¬ parts q := h_.2.2.1
theorem FI.an {fol : Nat → Nat → Nat} {parts : Nat → Prop} {p0 n cur c : Nat} {an : Int32} {sn ah : Nat → Int32} (h_ : FI fol parts p0 n cur c an sn ah) : (an = 0 ∧ ∀ p, p < 265280 → hasb ah p = false) ∨ (an = 1 ∧ ∃ p, p < 265280 ∧ hasb ah p = true) := h_.2.2.2

theorem FI.skip {fol : Nat → Nat → Nat} {parts : Nat → Prop} {p0 n cur : Nat} {an : Int32} {sn ah : Nat → Int32} (h : FI fol parts p0 n cur 0 an sn ah) {m : Nat} (hm : cur ≤ m) (hno : ∀ q, cur ≤ q → q < m → ¬ Fr fol p0 n q) : FI fol parts p0 n m 0 an sn ah := by
  have key : ∀ q d, (Fr fol p0 n q ∧ d < 6 ∧ (q < cur ∨ (q = cur ∧ d < 0))) ↔ (Fr fol p0 n q ∧ d < 6 ∧ (q < m ∨ (q = m ∧ d < 0))) := fun q d => by
    constructor
    · rintro ⟨a, b, c⟩; exact ⟨a, b, Or.inl (by omega)⟩
    · rintro ⟨a, b, c⟩
      refine ⟨a, b, Or.inl ?_⟩
      rcases Nat.lt_or_ge q cur with z | z
      · exact z
      · exact absurd a (hno q z (by omega))
  refine ⟨fun p hp => ?_, fun p hp => ?_, fun q hq hF => ?_, h.an⟩
  · rw [h.sn p hp]
    exact ⟨fun z => z.elim Or.inl (fun ⟨q, d, a, b, c, e⟩ => Or.inr ⟨q, d, a, b, ((key q d).mp ⟨a, b, c⟩).2.2, e⟩), fun z => z.elim Or.inl (fun ⟨q, d, a, b, c, e⟩ => Or.inr ⟨q, d, a, b, ((key q d).mpr ⟨a, b, c⟩).2.2, e⟩)⟩
  · rw [h.aa p hp]
    exact ⟨fun ⟨z, q, d, a, b, c, e⟩ => ⟨z, q, d, a, b, ((key q d).mp ⟨a, b, c⟩).2.2, e⟩, fun ⟨z, q, d, a, b, c, e⟩ => ⟨z, q, d, a, b, ((key q d).mpr ⟨a, b, c⟩).2.2, e⟩⟩
  · rcases Nat.lt_or_ge q cur with z | z
    · exact h.np q z hF
    · exact absurd hF (hno q z hq)
theorem q_far161 {fol : Nat → Nat → Nat} {parts V : Nat → Prop} {R : Int32} {mo se ls st : Nat → Int32} {xa xb : Int32} (HV : ∀ p c, V p → c < 6 → V (fol p c)) (HL : ∀ p, V p → p < 265225) (Hf : ∀ p c (post : Int32 → Prop), V p → c < 6 → post (nI (fol p c)) → p_M_follow st xa xb (nI p) (nI c) post) (Hp : ∀ p (post : Int32 → Prop), V p → (parts p → post 1) → (¬ parts p → post 0) → p_M_parts R mo se ls xa xb (nI p) post) {p0 n cur : Nat} (hV0 : V cur) (hF : Fr fol p0 n cur) (hpt : ¬ parts cur) {an l4 l6 l7 : Int32} {sn fr ah : Nat → Int32} (h : FI fol parts p0 n cur 0 an sn ah) {post : _} {K55 K91 K102 : _}
    (hK : ∀ an' sn' ah', uns sn' + (if an' = 0 then 0 else 1) ≤ uns sn + (if an = 0 then 0 else 1) → FI fol parts p0 n (cur + 1) 0 an' sn' ah' → K102 l4 an' l6 (l7 + 1) sn' fr ah') :
    ∃ k, p_M_far_161 st xa xb post K55 K91 K102 k l4 an l6 l7 (nI cur) 0 sn fr ah := by
  refine pk_loop (σ := Int32 × (Nat → Int32) × (Nat → Int32)) (fun k c z => p_M_far_161 st xa xb post K55 K91 K102 k l4 z.1 l6 l7 (nI cur) (nI c) z.2.1 fr z.2.2) (fun c z => uns z.2.1 + (if z.1 = 0 then 0 else 1) ≤ uns sn + (if an = 0 then 0 else 1) ∧ FI fol parts p0 n cur c z.1 z.2.1 z.2.2) 6 0 (an, sn, ah) (Nat.zero_le _) ⟨Nat.le_refl _, h⟩ ?_ ?_
  · rintro k ⟨an', sn', ah'⟩ ⟨hu, hI⟩
    dsimp only at hu hI ⊢
    refine ⟨fun _ => hK an' sn' ah' hu ?_, fun z => absurd (by decide) z⟩
    have key : ∀ q d, (Fr fol p0 n q ∧ d < 6 ∧ (q < cur ∨ (q = cur ∧ d < 6))) ↔ (Fr fol p0 n q ∧ d < 6 ∧ (q < cur + 1 ∨ (q = cur + 1 ∧ d < 0))) := fun q d => by
      constructor
      · rintro ⟨a, b, c⟩; exact ⟨a, b, by omega⟩
      · rintro ⟨a, b, c⟩; exact ⟨a, b, by omega⟩
    refine ⟨fun p hp => ?_, fun p hp => ?_, fun q hq hFq => ?_, hI.an⟩
    · rw [hI.sn p hp]
      exact ⟨fun z => z.elim Or.inl (fun ⟨q, d, a, b, c, e⟩ => Or.inr ⟨q, d, a, b, ((key q d).mp ⟨a, b, c⟩).2.2, e⟩), fun z => z.elim Or.inl (fun ⟨q, d, a, b, c, e⟩ => Or.inr ⟨q, d, a, b, ((key q d).mpr ⟨a, b, c⟩).2.2, e⟩)⟩
    · rw [hI.aa p hp]
      exact ⟨fun ⟨z, q, d, a, b, c, e⟩ => ⟨z, q, d, a, b, ((key q d).mp ⟨a, b, c⟩).2.2, e⟩, fun ⟨z, q, d, a, b, c, e⟩ => ⟨z, q, d, a, b, ((key q d).mpr ⟨a, b, c⟩).2.2, e⟩⟩
    · by_cases z : q = cur
      · subst z; exact hpt
      · exact hI.np q (by omega) hFq
  · rintro k c ⟨an', sn', ah'⟩ hc ⟨hu, hI⟩ hk
    dsimp only at hu hI hk ⊢
    have hVn := HV cur c hV0 hc
    have hLn := HL _ hVn
    refine ⟨fun z => absurd z (nI_ge (b := 6) hc (by omega)), fun _ => Hf cur c _ hV0 hc ?_⟩
    have hsplit : ∀ q d, d < 6 → ((q < cur ∨ (q = cur ∧ d < c + 1)) ↔ (q < cur ∨ (q = cur ∧ d < c)) ∨ (q = cur ∧ d = c)) := fun q d _ => by
      constructor
      · intro z; omega
      · intro z; omega
    refine q_M_has (by omega) (fun hno => ⟨fun _ => ?_, fun z => absurd rfl z⟩) (fun hyes => ⟨fun z => absurd z (by decide), fun _ => ?_⟩)
    · refine q_M_put (by omega) (fun sn2 h2 => q_M_put (by omega) (fun ah2 h3 => ?_))
      show p_M_far_161 st xa xb post K55 K91 K102 k l4 1 l6 l7 (nI cur) (nI c + 1) sn2 fr ah2
      rw [nI_1]
      have hnR : ¬ Rc fol p0 n (fol cur c) := fun z => by
        have := (hI.sn _ (by omega)).mpr (Or.inl z)
        rw [hno] at this; cases this
      have hun := uns_put (by omega) hno h2
      refine hk (1, sn2, ah2) ⟨?_, fun p hp => ?_, fun p hp => ?_, hI.np, Or.inr ⟨rfl, fol cur c, by omega, (h3 _).mpr (Or.inr rfl)⟩⟩
      · dsimp only
        rw [if_neg (show ¬ (1 : Int32) = 0 by decide)]
        omega
      · dsimp only
        rw [h2 p, hI.sn p hp]
        constructor
        · rintro ((z | ⟨q, d, a, b, c', e⟩) | z)
          · exact Or.inl z
          · exact Or.inr ⟨q, d, a, b, (hsplit q d b).mpr (Or.inl c'), e⟩
          · exact Or.inr ⟨cur, c, hF, hc, Or.inr ⟨rfl, by omega⟩, z.symm⟩
        · rintro (z | ⟨q, d, a, b, c', e⟩)
          · exact Or.inl (Or.inl z)
          · rcases (hsplit q d b).mp c' with z | ⟨rfl, rfl⟩
            · exact Or.inl (Or.inr ⟨q, d, a, b, z, e⟩)
            · exact Or.inr e.symm
      · dsimp only
        rw [h3 p, hI.aa p hp]
        constructor
        · rintro (⟨z, q, d, a, b, c', e⟩ | z)
          · exact ⟨z, q, d, a, b, (hsplit q d b).mpr (Or.inl c'), e⟩
          · rw [z]
            exact ⟨hnR, cur, c, hF, hc, Or.inr ⟨rfl, by omega⟩, rfl⟩
        · rintro ⟨z, q, d, a, b, c', e⟩
          rcases (hsplit q d b).mp c' with y | ⟨rfl, rfl⟩
          · exact Or.inl ⟨z, q, d, a, b, y, e⟩
          · exact Or.inr e.symm
    · show p_M_far_161 st xa xb post K55 K91 K102 k l4 an' l6 l7 (nI cur) (nI c + 1) sn' fr ah'
      rw [nI_1]
      have hin := (hI.sn _ (show fol cur c < 265280 by omega)).mp hyes
      refine hk (an', sn', ah') ⟨hu, fun p hp => ?_, fun p hp => ?_, hI.np, hI.an⟩
      · dsimp only
        rw [hI.sn p hp]
        constructor
        · rintro (z | ⟨q, d, a, b, c', e⟩)
          · exact Or.inl z
          · exact Or.inr ⟨q, d, a, b, (hsplit q d b).mpr (Or.inl c'), e⟩
        · rintro (z | ⟨q, d, a, b, c', e⟩)
          · exact Or.inl z
          · rcases (hsplit q d b).mp c' with z | ⟨rfl, rfl⟩
            · exact Or.inr ⟨q, d, a, b, z, e⟩
            · rw [← e]; exact hin
      · dsimp only
        rw [hI.aa p hp]
        constructor
        · rintro ⟨z, q, d, a, b, c', e⟩
          exact ⟨z, q, d, a, b, (hsplit q d b).mpr (Or.inl c'), e⟩
        · rintro ⟨z, q, d, a, b, c', e⟩
          rcases (hsplit q d b).mp c' with y | ⟨rfl, rfl⟩
          · exact ⟨z, q, d, a, b, y, e⟩
          · rw [e] at hin
            rcases hin with y | y
            · exact absurd y z
            · exact ⟨z, y⟩