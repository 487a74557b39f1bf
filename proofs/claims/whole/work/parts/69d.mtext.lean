/-! The reference's reader: what stands between [ and ] -/
theorem q_here {t i : Nat} (ht : t ≤ 24) {tp : Nat → Nat} {tape : Nat → Int32} (htp : ∀ i, i < t → tape i = nI (tp i) ∧ tp i < 256) (hi : i ≤ 30) {post : Int32 → Prop} (h0 : t ≤ i → post (-1)) (h1 : i < t → post (nI (tp i))) : p_M_here (nI t) (nI i) tape post := by
  refine ⟨fun z => h0 ?_, fun z => ?_⟩
  · rcases Nat.lt_or_ge i t with y | y
    · exact absurd z (nI_ge y (by omega))
    · exact y
  · have hlt : i < t := by
      rcases Nat.lt_or_ge i t with y | y
      · exact y
      · exact absurd (nI_le y (by omega)) z
    rw [nI_clamp (by omega), (htp i hlt).1]
    exact ⟨vp_in_nI (by omega) (by omega), h1 hlt⟩
theorem q_M_isL {b : Nat} (hb : b < 256) {post : Int32 → Prop} (h1 : isL b → post 1) (h0 : ¬ isL b → post 0) : p_M_isLetter (nI b) post := by
  unfold isL at h1 h0
  refine ⟨fun z => h0 (fun q => absurd z (nI_nlt (b := 97) q.1 (by omega))), fun z => ⟨fun y => h0 (fun q => absurd y (nI_nlt (a := 102) q.2 (by omega))), fun y => h1 ?_⟩⟩
  constructor
  · rcases Nat.lt_or_ge b 97 with q | q
    · exact absurd (nI_lt (b := 97) q (by omega)) z
    · exact q
  · rcases Nat.lt_or_ge 102 b with q | q
    · exact absurd (nI_lt (a := 102) q (by omega)) y
    · exact q
theorem q_M_isLm {post : Int32 → Prop} (h0 : post 0) : p_M_isLetter (-1) post := ⟨fun _ => h0, fun z => absurd (by decide) z⟩
theorem rgN_or {na : Int32} {f : Nat} (hf : f < 32) : ∀ m, 1 ≤ m → f + m ≤ 32 → rgN (na ||| ((1 : Int32) <<< (nI f &&& 31))) f m = rgN na f m := by
  intro m h1 h2
  induction m with
  | zero => omega
  | succ m ih =>
    rcases Nat.eq_zero_or_pos m with z | z
    · subst z
      show (na ||| _) ||| _ = na ||| _
      rw [Nat.add_zero]
      exact tb_ext fun p _ => by rw [tb_or, tb_or, Bool.or_assoc, Bool.or_self]
    · show rgN _ f m ||| _ = rgN na f m ||| _
      rw [ih z (by omega)]
theorem rgN_ne {na : Int32} {f : Nat} : ∀ m, 1 ≤ m → f + m ≤ 32 → ¬ rgN na f m = 0 := by
  intro m h1 h2 e
  have : tb (rgN na f m) (f + m - 1) = true := by
    cases m with
    | zero => omega
    | succ m =>
      show tb (rgN na f m ||| _) _ = true
      rw [tb_or, tb_bit (by omega)]
      simp
  rw [e, tb_0] at this
  cases this
theorem or_ne {na : Int32} {l : Nat} (hl : l < 32) : ¬ (na ||| ((1 : Int32) <<< (nI l &&& 31))) = 0 := by
  have := rgN_ne (na := na) (f := l) 1 (Nat.le_refl _) (by omega)
  exact this
/-- the run of letters from low to high -/
theorem q_br148 {l h : Nat} (hl : l < 6) (hh : h < 6) (hlh : l ≤ h) {l1 na at_ wr : Int32} {post : Int32 → Int32 → Int32 → Prop} {K : Int32 → Int32 → Int32 → Int32 → Int32 → Prop} (hK : K l1 (rgN na l (h + 1 - l)) 1 at_ wr) : ∃ k, p_M_brackets_148 post K k l1 na (nI (97 + h)) (nI (97 + l)) at_ wr := by
  have key : ∀ (d i : Nat), l ≤ i → i + d = h + 1 → ∃ k, p_M_brackets_148 post K k l1 (rgN na l (i - l)) (nI (97 + h)) (nI (97 + i)) at_ wr := by
    intro d
    induction d with
    | zero =>
      intro i hi he
      have e : i = h + 1 := by omega
      subst e
      exact ⟨1, fun _ => hK, fun z => absurd (nI_lt (by omega) (by omega)) z⟩
    | succ d ih =>
      intro i hi he
      obtain ⟨k, hk⟩ := ih (i + 1) (by omega) (by omega)
      refine ⟨k + 1, fun z => absurd z (nI_nlt (by omega) (by omega)), fun _ => ?_⟩
      have e1 : nI (97 + i) - 97 = nI i := by
        have := pk_sub (a := 97 + i) (b := 97) (by omega)
        rw [show 97 + i - 97 = i by omega] at this
        exact this
      rw [e1, nI_1]
      have e : rgN na l (i + 1 - l) = rgN na l (i - l) ||| ((1 : Int32) <<< (nI i &&& 31)) := by
        rw [show i + 1 - l = i - l + 1 by omega]
        show rgN na l (i - l) ||| _ = _
        rw [show l + (i - l) = i by omega]
      rw [e] at hk
      exact hk
  obtain ⟨k, hk⟩ := key (h + 1 - l) l (Nat.le_refl _) (by omega)
  rw [Nat.sub_self] at hk
  exact ⟨k, hk⟩
theorem rd_0 {tp : Nat → Nat} {t : Nat} {S : TS} {z : ZS} : rdT tp t 0 t S (some z) = (t, none) := if_neg (fun q => by cases q.1)
theorem rd_no {tp : Nat → Nat} {t : Nat} {S : TS} {n i : Nat} {z : Option ZS} (h : stepT S z (tp i) = none) : rdT tp t (n + 1) i S z = (i, none) := by
  show (match stepT S z (tp i) with | none => _ | some (S', z') => _) = _
  rw [h]
theorem rd_so {tp : Nat → Nat} {t : Nat} {S : TS} {n i : Nat} {z z' : Option ZS} {S' : TS} (h : stepT S z (tp i) = some (S', z')) : rdT tp t (n + 1) i S z = rdT tp t n (i + 1) S' z' := by
  show (match stepT S z (tp i) with | none => _ | some (S', z') => _) = _
  rw [h]
/-- the loop of brackets: the program's flags at its head -/
theorem q_br33 {tp : Nat → Nat} {t : Nat} {tape : Nat → Int32} {S : TS} {post : Int32 → Int32 → Int32 → Prop} (ht : t ≤ 24) (htp : ∀ i, i < t → tape i = nI (tp i) ∧ tp i < 256) (X : Nat × Option TS) {i0 : Nat}
    (h0 : ∀ j, j ≤ t → X = (j, none) → ∀ bits at', post bits at' (nI j))
    (h1 : ∀ j bits, i0 ≤ j → j < t → X = rdT tp t (t - (j + 1)) (j + 1) (placeT S bits) none → post bits (nI (j + 1)) (-1)) :
    ∀ (d i : Nat) (fr ot na fm sm : Int32), t - i ≤ d → i0 ≤ i → i ≤ t → X = rdT tp t (t - i) i S (some (fr, ot, 0, na, fm)) → (fr = 0 ∨ ¬ (i < t ∧ tp i = 94)) → (fm = -1 ∨ ¬ (i < t ∧ tp i = 45)) → ((sm = 0 ∧ na = 0) ∨ (sm = 1 ∧ ¬ na = 0)) → p_M_brackets_33 (nI t) tape post (d + 1) ot na sm (nI i) (-1) := by
  intro d
  induction d using Nat.strongRecOn with
  | ind d ih =>
    intro i fr ot na fm sm hd hi0 hi hX hfr hfm hsm
    have ref68 : X = (i, none) → p_M_brackets_68 post (nI i) (-1) := fun e => ⟨fun z => absurd rfl z, fun _ => h0 i hi e 0 _⟩
    -- a character that begins no letter
    have notL : ∀ (hlt : i < t), ¬ isL (tp i) → (tp i = 93 → na = 0) → X = (i, none) := fun hlt hl h93 => by
      rw [hX, show t - i = t - i - 1 + 1 by omega]
      refine rd_no ?_
      show stepZ S (fr, ot, 0, na, fm) (tp i) = none
      unfold stepZ
      by_cases e94 : tp i = 94
      · rw [if_pos e94]
        have : fr = 0 := hfr.elim id (fun q => absurd ⟨hlt, e94⟩ q)
        rw [this]; rfl
      · rw [if_neg e94]
        by_cases e45 : tp i = 45
        · rw [if_pos e45]
          have : fm = -1 := hfm.elim id (fun q => absurd ⟨hlt, e45⟩ q)
          rw [if_pos (Or.inl this)]
        · rw [if_neg e45]
          by_cases e93 : tp i = 93
          · rw [if_pos e93, if_pos (Or.inl (h93 e93))]
          · rw [if_neg e93, if_neg (show ¬ (97 ≤ tp i ∧ tp i ≤ 102) from hl)]
    -- from a letter on
    have fromL : ∀ (hlt : i < t), isL (tp i) → p_M_here (nI t) (nI i + 1) tape (fun r4 => (¬ r4 = 45 → ∃ k, p_M_brackets_148 post (p_M_brackets_33 (nI t) tape post d) k ot na (nI (tp i)) (nI (tp i)) (nI i + 1) (-1)) ∧ (r4 = 45 → p_M_here (nI t) (nI i + 1 + 1) tape (fun r5 => p_M_isLetter r5 (fun r6 => (r6 = 0 → p_M_brackets_128 post (nI i + 1 + 1) (-1)) ∧ (¬ r6 = 0 → ((nI (tp i) ≤ r5 → ∃ k, p_M_brackets_148 post (p_M_brackets_33 (nI t) tape post d) k ot na r5 (nI (tp i)) (nI i + 1 + 1 + 1) (-1)) ∧ (¬ nI (tp i) ≤ r5 → p_M_brackets_128 post (nI i + 1 + 1) (-1))))))) ) := fun hlt hl => by
      have hl2 : 97 ≤ tp i ∧ tp i ≤ 102 := hl
      obtain ⟨l, hl6, el⟩ : ∃ l, l < 6 ∧ tp i = 97 + l := ⟨tp i - 97, by omega, by omega⟩
      rw [nI_1, nI_1, nI_1, el]
      have hs1 : X = rdT tp t (t - (i + 1)) (i + 1) S (some (0, ot, 0, na ||| ((1 : Int32) <<< (nI l &&& 31)), nI l)) := by
        rw [hX, show t - i = t - (i + 1) + 1 by omega]
        refine rd_so ?_
        show stepZ S (fr, ot, 0, na, fm) (tp i) = _
        unfold stepZ
        rw [if_neg (by omega), if_neg (by omega), if_neg (by omega), if_pos hl2, if_pos rfl, show tp i - 97 = l by omega]
      have hsingle : (¬ (i + 1 < t ∧ tp (i + 1) = 45)) → ∃ k, p_M_brackets_148 post (p_M_brackets_33 (nI t) tape post d) k ot na (nI (97 + l)) (nI (97 + l)) (nI (i + 1)) (-1) := fun hn => by
        refine q_br148 hl6 hl6 (Nat.le_refl _) ?_
        have e1 : rgN na l (l + 1 - l) = na ||| ((1 : Int32) <<< (nI l &&& 31)) := by
          rw [show l + 1 - l = 0 + 1 by omega]; rfl
        rw [e1]
        obtain ⟨d, rfl⟩ : ∃ m, d = m + 1 := ⟨d - 1, by omega⟩
        exact ih d (by omega) (i + 1) 0 ot _ (nI l) 1 (by omega) (by omega) (by omega) hs1 (Or.inl rfl) (Or.inr hn) (Or.inr ⟨rfl, or_ne (by omega)⟩)
      refine q_here ht htp (by omega) (fun hge => ⟨fun _ => hsingle (fun q => by omega), fun z => absurd z (by decide)⟩) (fun hlt1 => ?_)
      have hb1 := (htp (i + 1) hlt1).2
      have c45 := nIc (k := 45) hb1 (by omega)
      refine ⟨fun z => hsingle (fun q => z (c45.mpr q.2)), fun z => ?_⟩
      have e45 := c45.mp z
      have hs2 : X = rdT tp t (t - (i + 2)) (i + 2) S (some (0, ot, 1, na ||| ((1 : Int32) <<< (nI l &&& 31)), nI l)) := by
        rw [hs1, show t - (i + 1) = t - (i + 2) + 1 by omega]
        refine rd_so ?_
        show stepZ S (0, ot, 0, _, nI l) (tp (i + 1)) = _
        unfold stepZ
        rw [if_neg (by omega), if_pos e45, if_neg (fun q => q.elim (nI_nm1 (by omega)) (fun y => y rfl))]
      have ref128 : X = (i + 2, none) → p_M_brackets_128 post (nI (i + 1 + 1)) (-1) := fun e => ⟨fun z => absurd rfl z, fun _ => h0 (i + 2) (by omega) e 0 _⟩
      refine q_here ht htp (by omega) (fun hge => q_M_isLm ⟨fun _ => ref128 ?_, fun y => absurd rfl y⟩) (fun hlt2 => ?_)
      · rw [hs2, show t - (i + 2) = 0 by omega, show i + 2 = t by omega]; exact rd_0
      · have hb2 := (htp (i + 1 + 1) hlt2).2
        refine q_M_isL hb2 (fun hL => ⟨fun y => absurd y (by decide), fun _ => ?_⟩) (fun hL => ⟨fun _ => ref128 ?_, fun y => absurd rfl y⟩)
        · have hL2 : 97 ≤ tp (i + 2) ∧ tp (i + 2) ≤ 102 := hL
          obtain ⟨h, hh6, eh⟩ : ∃ h, h < 6 ∧ tp (i + 2) = 97 + h := ⟨tp (i + 2) - 97, by omega, by omega⟩
          show (nI (97 + l) ≤ nI (tp (i + 2)) → _) ∧ (¬ nI (97 + l) ≤ nI (tp (i + 2)) → _)
          rw [eh]
          have hst : stepZ S (0, ot, 1, na ||| ((1 : Int32) <<< (nI l &&& 31)), nI l) (tp (i + 2)) = (if nI h < nI l then none else some (S, some (0, ot, 0, rgN (na ||| ((1 : Int32) <<< (nI l &&& 31))) l (h + 1 - l), -1))) := by
            unfold stepZ
            rw [if_neg (by omega), if_neg (by omega), if_neg (by omega), if_pos hL2, if_neg (by decide : ¬ (1 : Int32) = 0), show tp (i + 2) - 97 = h by omega]
            show (if nI h < nI l then none else some (S, some (0, ot, 0, rgN _ (nI l).toNatClampNeg (h + 1 - (nI l).toNatClampNeg), -1))) = _
            rw [nI_clamp (by omega)]
          refine ⟨fun y => ?_, fun y => ref128 ?_⟩
          · have hlh : l ≤ h := by
              rcases Nat.lt_or_ge h l with q | q
              · exact absurd y (nI_ge (by omega) (by omega))
              · exact q
            refine q_br148 hl6 hh6 hlh ?_
            obtain ⟨d, rfl⟩ : ∃ m, d = m + 1 := ⟨d - 1, by omega⟩
            refine ih d (by omega) (i + 1 + 1 + 1) 0 ot _ (-1) 1 (by omega) (by omega) (by omega) ?_ (Or.inl rfl) (Or.inl rfl) (Or.inr ⟨rfl, rgN_ne _ (by omega) (by omega)⟩)
            rw [hs2, show t - (i + 2) = t - (i + 1 + 1 + 1) + 1 by omega]
            refine rd_so ?_
            show stepZ S (0, ot, 1, _, nI l) (tp (i + 2)) = _
            rw [hst, if_neg (nI_nlt hlh (by omega)), rgN_or (by omega) _ (by omega) (by omega)]
          · have hlh : h < l := by
              rcases Nat.lt_or_ge h l with q | q
              · exact q
              · exact absurd (nI_le (by omega) (by omega)) y
            rw [hs2, show t - (i + 2) = t - (i + 2) - 1 + 1 by omega]
            refine rd_no ?_
            show stepZ S (0, ot, 1, _, nI l) (tp (i + 2)) = _
            rw [hst, if_pos (nI_lt hlh (by omega))]
        · have hL2 : ¬ (97 ≤ tp (i + 2) ∧ tp (i + 2) ≤ 102) := hL
          rw [hs2, show t - (i + 2) = t - (i + 2) - 1 + 1 by omega]
          refine rd_no ?_
          show stepZ S (0, ot, 1, _, nI l) (tp (i + 2)) = _
          unfold stepZ
          by_cases e94 : tp (i + 2) = 94
          · rw [if_pos e94]; rfl
          · rw [if_neg e94]
            by_cases e45' : tp (i + 2) = 45
            · rw [if_pos e45', if_pos (Or.inr (show ¬ (1 : Int32) = 0 by decide))]
            · rw [if_neg e45']
              by_cases e93 : tp (i + 2) = 93
              · rw [if_pos e93, if_pos (Or.inr (Or.inl (show ¬ (1 : Int32) = 0 by decide)))]
              · rw [if_neg e93, if_neg hL2]
    refine ⟨fun z => absurd rfl z, fun _ => ?_⟩
    refine q_here ht htp (by omega) (fun hge => ⟨fun _ => ?_, fun z => absurd z (by decide)⟩) (fun hlt => ?_)
    · refine q_here ht htp (by omega) (fun _ => q_M_isLm ⟨fun z => absurd rfl z, fun _ => ref68 ?_⟩) (fun q => absurd q (by omega))
      have e : i = t := by omega
      rw [hX, e, Nat.sub_self]; exact rd_0
    · have hb := (htp i hlt).2
      have c93 := nIc (k := 93) hb (by omega)
      refine ⟨fun z => ?_, fun z => ⟨fun y => ?_, fun y => ?_⟩⟩
      · refine q_here ht htp (by omega) (fun q => absurd q (by omega)) (fun _ => q_M_isL hb (fun hl => ⟨fun _ => fromL hlt hl, fun w => absurd w (by decide)⟩) (fun hl => ⟨fun w => absurd rfl w, fun _ => ref68 (notL hlt hl (fun q => absurd (c93.mpr q) z))⟩))
      · -- the end of the set
        have e93 := c93.mp z
        have hna : ¬ na = 0 := hsm.elim (fun q => absurd q.1 y) (fun q => q.2)
        have hst : stepZ S (fr, ot, 0, na, fm) (tp i) = (if lsO ot na = 0 then none else some (placeT S (lsO ot na), none)) := by
          unfold stepZ
          rw [if_neg (by omega), if_neg (by omega), if_pos e93]
          by_cases w : lsO ot na = 0
          · rw [if_pos (Or.inr (Or.inr w)), if_pos w]
          · rw [if_neg (fun q => q.elim hna (fun q2 => q2.elim (fun q3 => q3 rfl) w)), if_neg w]
        have hX2 : X = (match stepZ S (fr, ot, 0, na, fm) (tp i) with | none => (i, none) | some (S', z') => rdT tp t (t - (i + 1)) (i + 1) S' z') := by
          rw [hX, show t - i = t - (i + 1) + 1 by omega]; rfl
        rw [hst] at hX2
        have fin : (¬ lsO ot na = 0 → post (lsO ot na) (nI i + 1) (-1)) ∧ (lsO ot na = 0 → p_M_refuse (nI i) (-1) (fun u => post (lsO ot na) (nI i + 1) u)) := by
          refine ⟨fun w => ?_, fun w => ⟨fun q => absurd rfl q, fun _ => ?_⟩⟩
          · rw [if_neg w] at hX2
            rw [nI_1]
            exact h1 i _ hi0 hlt hX2
          · rw [if_pos w] at hX2
            exact h0 i hi hX2 _ _
        unfold lsO at fin
        refine ⟨fun w => ?_, fun w => ?_⟩
        · rw [if_pos w] at fin; exact fin
        · rw [if_neg w] at fin; exact fin
      · have e93 := c93.mp z
        have hna : na = 0 := hsm.elim (fun q => q.2) (fun q => by rw [q.1] at y; exact absurd y (by decide))
        refine q_here ht htp (by omega) (fun q => absurd q (by omega)) (fun _ => q_M_isL hb (fun (hl : 97 ≤ tp i ∧ tp i ≤ 102) => absurd hl (by omega)) (fun hl => ⟨fun w => absurd rfl w, fun _ => ref68 (notL hlt hl (fun _ => hna))⟩))
theorem q_brackets {tp : Nat → Nat} {t : Nat} {tape : Nat → Int32} {S : TS} {post : Int32 → Int32 → Int32 → Prop} (ht : t ≤ 24) (htp : ∀ i, i < t → tape i = nI (tp i) ∧ tp i < 256) {i : Nat} (hi : i ≤ t)
    (h0 : ∀ j, j ≤ t → rdT tp t (t - i) i S (some (1, 0, 0, 0, -1)) = (j, none) → ∀ bits at', post bits at' (nI j))
    (h1 : ∀ j bits, i ≤ j → j < t → rdT tp t (t - i) i S (some (1, 0, 0, 0, -1)) = rdT tp t (t - (j + 1)) (j + 1) (placeT S bits) none → post bits (nI (j + 1)) (-1)) : p_M_brackets (nI t) (nI i) (-1) tape post := by
  have hloop : (¬ (i < t ∧ tp i = 94)) → ∃ k, p_M_brackets_33 (nI t) tape post k 0 0 0 (nI i) (-1) := fun hn =>
    ⟨_, q_br33 ht htp (rdT tp t (t - i) i S (some (1, 0, 0, 0, -1))) h0 h1 (t - i) i 1 0 0 (-1) 0 (Nat.le_refl _) (Nat.le_refl _) hi rfl (Or.inr hn) (Or.inl rfl) (Or.inl ⟨rfl, rfl⟩)⟩
  refine q_here ht htp (by omega) (fun hge => ⟨fun _ => hloop (fun q => by omega), fun z => absurd z (by decide)⟩) (fun hlt => ?_)
  have hb := (htp i hlt).2
  have c94 := nIc (k := 94) hb (by omega)
  refine ⟨fun z => hloop (fun q => z (c94.mpr q.2)), fun z => ?_⟩
  have e94 := c94.mp z
  rw [nI_1]
  refine ⟨_, q_br33 ht htp (rdT tp t (t - i) i S (some (1, 0, 0, 0, -1))) h0 h1 (t - (i + 1)) (i + 1) 0 1 0 (-1) 0 (Nat.le_refl _) (by omega) (by omega) ?_ (Or.inl rfl) (Or.inl rfl) (Or.inl ⟨rfl, rfl⟩)⟩
  rw [show t - i = t - (i + 1) + 1 by omega]
  refine rd_so ?_
  show stepZ S (1, 0, 0, 0, -1) (tp i) = _
  unfold stepZ
  rw [if_pos e94, if_neg (by decide)]