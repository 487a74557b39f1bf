/-! The program's reader: its steps -/
theorem CTx.pool {S : TS} {noW emW : Nat} {dp pl : Int32} {ch sq pt : Nat → Option Nat} {fo lt : Nat → Int32} {LP : List Nat} {PF : Nat → Pc} (h : CTx S noW emW dp pl ch sq pt fo lt LP PF) {q : Nat} (hq : q ∉ LP) {Q : Pc} : CTx S noW emW dp pl ch sq pt fo lt (LP ++ [q]) (va_up PF q Q) := by
  refine ⟨h.d4, h.dp, h.pl, fun e he => (h.ch e he).grow hq, fun e he => (h.sq e he).grow hq, fun e he => (h.pt e he).grow hq, h.fo, h.lt, ?_, ?_⟩
  · refine ⟨List.mem_append_left _ h.noW.1, ?_⟩
    have : noW ≠ q := fun z => hq (z ▸ h.noW.1)
    show (if noW = q then Q else PF noW) = _
    rw [if_neg this]; exact h.noW.2
  · refine ⟨List.mem_append_left _ h.emW.1, ?_⟩
    have : emW ≠ q := fun z => hq (z ▸ h.emW.1)
    show (if emW = q then Q else PF emW) = _
    rw [if_neg this]; exact h.emW.2
theorem q_addPart {S : TS} {noW emW : Nat} {dp pl : Int32} {ch sq pt : Nat → Option Nat} {fo lt : Nat → Int32} {LP : List Nat} {PF : Nat → Pc} (h : CTx S noW emW dp pl ch sq pt fo lt LP PF) (hq : S.q ≤ 24) {x : Nat} {P : Pc} (hx : x ∈ LP ∧ PF x = P) {post : (Nat → Option Nat) → (Nat → Option Nat) → (Nat → Int32) → List Nat → (Nat → Pc) → Prop}
    (hp : ∀ pt' sq' fo' LP' PF', CTx (addT S P) noW emW dp pl ch sq' pt' fo' lt LP' PF' → post pt' sq' fo' LP' PF') : p_RuleText_addPart dp pl pt sq fo LP PF x post := by
  have hd := h.d4
  have hdv : vp_in dp 5 := by rw [h.dp]; exact vp_in_nI (by omega) (by omega)
  have hdc : dp.toNatClampNeg = S.d := by rw [h.dp, nI_clamp (by omega)]
  have hpt := h.pt S.d (Nat.le_refl _)
  unfold p_RuleText_addPart
  rw [hdc]
  cases e : S.pt S.d with
  | none =>
    rw [e] at hpt
    have ej : joinT S = S := by unfold joinT; rw [e]
    refine ⟨hdv, fun _ => ⟨hdv, hx.1, hp _ _ _ _ _ ?_⟩, fun z1 hz => by rw [show pt S.d = none from hpt] at hz; cases hz⟩
    unfold addT
    rw [ej]
    refine ⟨h.d4, h.dp, h.pl, h.ch, h.sq, fun e' he' => ?_, h.fo, h.lt, h.noW, h.emW⟩
    show AtO LP PF (va_up pt S.d (some x) e') (upF S.pt S.d (some P) e')
    by_cases y : e' = S.d
    · subst y; rw [vu_s, upF_s]; exact ⟨x, rfl, hx.1, hx.2⟩
    · rw [vu_n y, upF_n y]; exact h.pt e' he'
  | some Q =>
    rw [e] at hpt
    obtain ⟨z, ez, mz, pz⟩ := hpt
    obtain ⟨y, ey, my, py⟩ := h.sq S.d (Nat.le_refl _)
    refine ⟨hdv, (fun z0 => by rw [ez] at z0; cases z0), fun z1 hz1 => ?_⟩
    rw [ez] at hz1
    have hz1 := Option.some.inj hz1
    subst hz1
    refine ⟨hdv, (fun z0 => by rw [ey] at z0; cases z0), fun z2 hz2 => ?_⟩
    rw [ey] at hz2
    have hz2 := Option.some.inj hz2
    subst hz2
    refine ⟨my, mz, ?_⟩
    rw [h.pl]
    refine q_link hq h.fo (x := (PF y).2.1) (y := (PF z).1) (fun g hg => ⟨hdv, (fun z0 => by rw [ey] at z0; cases z0), fun z5 hz5 => ?_⟩)
    rw [ey] at hz5
    have hz5 := Option.some.inj hz5
    subst hz5
    refine ⟨my, mz, q_then (fun q6 hq6 => ?_)⟩
    have ej : joinT S = TS.mk S.d S.q S.lt (linkF S.q (S.sq S.d).2.1 Q.1 S.fo) S.ch (upF S.sq S.d (thenP (S.sq S.d) Q)) (upF S.pt S.d none) := by unfold joinT; rw [e]
    have hC := h.pool hq6 (Q := thenP (PF y) (PF z))
    refine ⟨hdv, List.mem_append_right _ (List.mem_singleton.mpr rfl), hdv, List.mem_append_left _ hx.1, hp _ _ _ _ _ ?_⟩
    unfold addT
    rw [ej]
    refine ⟨h.d4, h.dp, h.pl, hC.ch, fun e' he' => ?_, fun e' he' => ?_, fun p hpq => ?_, h.lt, hC.noW, hC.emW⟩
    · show At _ _ (va_up sq S.d (some q6) e') (upF S.sq S.d (thenP (S.sq S.d) Q) e')
      by_cases w : e' = S.d
      · subst w
        rw [vu_s, upF_s]
        have := @At.new LP PF q6 (thenP (PF y) (PF z))
        rw [py, pz] at this
        rw [py, pz]
        exact this
      · rw [vu_n w, upF_n w]; exact hC.sq e' he'
    · show AtO _ _ (va_up pt S.d (some x) e') (upF (upF S.pt S.d none) S.d (some P) e')
      by_cases w : e' = S.d
      · subst w
        rw [vu_s, upF_s]
        exact At.grow (o := some x) ⟨x, rfl, hx.1, hx.2⟩ hq6
      · rw [vu_n w, upF_n w, upF_n w]; exact hC.pt e' he'
    · show g p = linkF S.q (S.sq S.d).2.1 Q.1 S.fo p
      rw [hg p hpq, py, pz]
theorem q_addPartN {S : TS} {noW emW : Nat} {dp pl : Int32} {ch sq pt : Nat → Option Nat} {fo lt : Nat → Int32} {LP : List Nat} {PF : Nat → Pc} (h : CTx S noW emW dp pl ch sq pt fo lt LP PF) (hq : S.q ≤ 24) {post : (Nat → Option Nat) → (Nat → Option Nat) → (Nat → Int32) → List Nat → (Nat → Pc) → Prop}
    (hp : ∀ pt' sq' fo' LP' PF', CTx (joinT S) noW emW dp pl ch sq' pt' fo' lt LP' PF' → post pt' sq' fo' LP' PF') : p_RuleText_addPartN dp pl pt sq fo LP PF post := by
  have hd := h.d4
  have hdv : vp_in dp 5 := by rw [h.dp]; exact vp_in_nI (by omega) (by omega)
  have hdc : dp.toNatClampNeg = S.d := by rw [h.dp, nI_clamp (by omega)]
  have hpt := h.pt S.d (Nat.le_refl _)
  unfold p_RuleText_addPartN
  rw [hdc]
  cases e : S.pt S.d with
  | none =>
    rw [e] at hpt
    have ej : joinT S = S := by unfold joinT; rw [e]
    refine ⟨hdv, fun _ => ⟨hdv, hp _ _ _ _ _ ?_⟩, fun z1 hz => by rw [show pt S.d = none from hpt] at hz; cases hz⟩
    rw [ej]
    refine ⟨h.d4, h.dp, h.pl, h.ch, h.sq, fun e' he' => ?_, h.fo, h.lt, h.noW, h.emW⟩
    by_cases y : e' = S.d
    · subst y; rw [vu_s, e]; rfl
    · rw [vu_n y]; exact h.pt e' he'
  | some Q =>
    rw [e] at hpt
    obtain ⟨z, ez, mz, pz⟩ := hpt
    obtain ⟨y, ey, my, py⟩ := h.sq S.d (Nat.le_refl _)
    refine ⟨hdv, (fun z0 => by rw [ez] at z0; cases z0), fun z1 hz1 => ?_⟩
    rw [ez] at hz1
    have hz1 := Option.some.inj hz1
    subst hz1
    refine ⟨hdv, (fun z0 => by rw [ey] at z0; cases z0), fun z2 hz2 => ?_⟩
    rw [ey] at hz2
    have hz2 := Option.some.inj hz2
    subst hz2
    refine ⟨my, mz, ?_⟩
    rw [h.pl]
    refine q_link hq h.fo (x := (PF y).2.1) (y := (PF z).1) (fun g hg => ⟨hdv, (fun z0 => by rw [ey] at z0; cases z0), fun z5 hz5 => ?_⟩)
    rw [ey] at hz5
    have hz5 := Option.some.inj hz5
    subst hz5
    refine ⟨my, mz, q_then (fun q6 hq6 => ?_)⟩
    have ej : joinT S = TS.mk S.d S.q S.lt (linkF S.q (S.sq S.d).2.1 Q.1 S.fo) S.ch (upF S.sq S.d (thenP (S.sq S.d) Q)) (upF S.pt S.d none) := by unfold joinT; rw [e]
    have hC := h.pool hq6 (Q := thenP (PF y) (PF z))
    refine ⟨hdv, List.mem_append_right _ (List.mem_singleton.mpr rfl), hdv, hp _ _ _ _ _ ?_⟩
    rw [ej]
    refine ⟨h.d4, h.dp, h.pl, hC.ch, fun e' he' => ?_, fun e' he' => ?_, fun p hpq => ?_, h.lt, hC.noW, hC.emW⟩
    · show At _ _ (va_up sq S.d (some q6) e') (upF S.sq S.d (thenP (S.sq S.d) Q) e')
      by_cases w : e' = S.d
      · subst w
        rw [vu_s, upF_s]
        have := @At.new LP PF q6 (thenP (PF y) (PF z))
        rw [py, pz] at this
        rw [py, pz]
        exact this
      · rw [vu_n w, upF_n w]; exact hC.sq e' he'
    · show AtO _ _ (va_up pt S.d none e') (upF S.pt S.d none e')
      by_cases w : e' = S.d
      · subst w; rw [vu_s, upF_s]; rfl
      · rw [vu_n w, upF_n w]; exact hC.pt e' he'
    · show g p = linkF S.q (S.sq S.d).2.1 Q.1 S.fo p
      rw [hg p hpq, py, pz]
theorem q_endSeq {S : TS} {noW emW : Nat} {dp pl : Int32} {ch sq pt : Nat → Option Nat} {fo lt : Nat → Int32} {LP : List Nat} {PF : Nat → Pc} (h : CTx S noW emW dp pl ch sq pt fo lt LP PF) (hq : S.q ≤ 24) {post : Int32 → (Nat → Option Nat) → (Nat → Option Nat) → (Nat → Int32) → (Nat → Option Nat) → List Nat → (Nat → Pc) → Prop}
    (h0 : S.pt S.d = none → post 0 pt sq fo ch LP PF)
    (h1 : S.pt S.d ≠ none → ∀ pt' sq' fo' ch' LP' PF', CTx (endT S) noW emW dp pl ch' sq' pt' fo' lt LP' PF' → post 1 pt' sq' fo' ch' LP' PF') : p_RuleText_endSequence emW dp pl pt sq fo ch LP PF post := by
  have hd := h.d4
  have hdv : vp_in dp 5 := by rw [h.dp]; exact vp_in_nI (by omega) (by omega)
  have hdc : dp.toNatClampNeg = S.d := by rw [h.dp, nI_clamp (by omega)]
  have hpt := h.pt S.d (Nat.le_refl _)
  unfold p_RuleText_endSequence
  rw [hdc]
  refine ⟨hdv, fun z => h0 ?_, fun z1 hz1 => ?_⟩
  · cases e : S.pt S.d with
    | none => rfl
    | some Q =>
      rw [e] at hpt
      obtain ⟨a, ea, -, -⟩ := hpt
      rw [ea] at z; cases z
  · have hne : S.pt S.d ≠ none := fun e => by
      rw [e] at hpt
      rw [show pt S.d = none from hpt] at hz1; cases hz1
    refine q_addPartN h hq (fun pt2 sq2 fo2 LP2 PF2 h2 => ?_)
    obtain ⟨jd, jq, jl, jc⟩ := join_d S
    obtain ⟨c, ec, mc, pc⟩ := h2.ch S.d (by rw [jd]; exact Nat.le_refl _)
    obtain ⟨y, ey, my, py⟩ := h2.sq S.d (by rw [jd]; exact Nat.le_refl _)
    refine ⟨hdv, (fun z0 => by rw [ec] at z0; cases z0), fun z8 hz8 => ?_⟩
    rw [ec] at hz8
    have hz8 := Option.some.inj hz8
    subst hz8
    refine ⟨hdv, (fun z0 => by rw [ey] at z0; cases z0), fun z10 hz10 => ?_⟩
    rw [ey] at hz10
    have hz10 := Option.some.inj hz10
    subst hz10
    refine ⟨mc, my, q_or (fun q11 hq11 => ?_)⟩
    have hC := h2.pool hq11 (Q := orP (PF2 c) (PF2 y))
    refine ⟨hdv, List.mem_append_right _ (List.mem_singleton.mpr rfl), hdv, hC.emW.1, h1 hne _ _ _ _ _ _ ?_⟩
    unfold endT
    refine ⟨by rw [jd]; exact h.d4, by rw [jd]; exact h.dp, by rw [jq]; exact h.pl, fun e' he' => ?_, fun e' he' => ?_, hC.pt, hC.fo, hC.lt, hC.noW, hC.emW⟩
    · show At _ _ (va_up ch S.d (some q11) e') (upF S.ch S.d (orP (S.ch S.d) ((joinT S).sq S.d)) e')
      by_cases w : e' = S.d
      · subst w
        rw [vu_s, upF_s]
        have := @At.new LP2 PF2 q11 (orP (PF2 c) (PF2 y))
        rw [pc, py, jc] at this
        rw [pc, py, jc]
        exact this
      · rw [vu_n w, upF_n w]
        have := hC.ch e' he'
        rw [jc] at this
        exact this
    · show At _ _ (va_up sq2 S.d (some emW) e') (upF (joinT S).sq S.d (0, 0, 1) e')
      by_cases w : e' = S.d
      · subst w
        rw [vu_s, upF_s]
        exact ⟨emW, rfl, hC.emW.1, hC.emW.2⟩
      · rw [vu_n w, upF_n w]; exact hC.sq e' he'
theorem q_addPlace {S : TS} {noW emW : Nat} {dp pl : Int32} {ch sq pt : Nat → Option Nat} {fo lt : Nat → Int32} {LP : List Nat} {PF : Nat → Pc} (h : CTx S noW emW dp pl ch sq pt fo lt LP PF) (hq : S.q < 24) {b : Int32} {post : Int32 → (Nat → Int32) → (Nat → Int32) → (Nat → Option Nat) → (Nat → Option Nat) → List Nat → (Nat → Pc) → Prop}
    (hp : ∀ pl' lt' fo' pt' sq' LP' PF', CTx (placeT S b) noW emW dp pl' ch sq' pt' fo' lt' LP' PF' → post pl' lt' fo' pt' sq' LP' PF') : p_RuleText_addPlace dp pl lt fo pt sq LP PF b post := by
  have hplc : pl.toNatClampNeg = S.q := by rw [h.pl, nI_clamp (by omega)]
  have hpv : vp_in pl 24 := by rw [h.pl]; exact vp_in_nI hq (by omega)
  refine ⟨hpv, hpv, Or.inl rfl, fun q1 hq1 => ?_⟩
  rw [hplc]
  have hC := h.pool hq1 (Q := ((1 : Int32) <<< (pl &&& 31), (1 : Int32) <<< (pl &&& 31), 0))
  have h2 : CTx (TS.mk S.d (S.q + 1) (upF S.lt S.q b) (upF S.fo S.q 0) S.ch S.sq S.pt) noW emW dp (pl + 1) ch sq pt (upd fo S.q 0) (upd lt S.q b) (LP ++ [q1]) (va_up PF q1 ((1 : Int32) <<< (pl &&& 31), (1 : Int32) <<< (pl &&& 31), 0)) := by
    refine ⟨h.d4, h.dp, by rw [h.pl]; exact nI_1 S.q, hC.ch, hC.sq, hC.pt, fun p hp2 => ?_, fun p hp2 => ?_, hC.noW, hC.emW⟩
    · have hp2 : p < S.q + 1 := hp2
      show upd fo S.q 0 p = upF S.fo S.q 0 p
      by_cases e : p = S.q
      · subst e; rw [pk_us, upF_s]
      · rw [pk_un e, upF_n e]; exact h.fo p (by omega)
    · have hp2 : p < S.q + 1 := hp2
      show upd lt S.q b p = upF S.lt S.q b p
      by_cases e : p = S.q
      · subst e; rw [pk_us, upF_s]
      · rw [pk_un e, upF_n e]; exact h.lt p (by omega)
  refine q_addPart h2 (by show S.q + 1 ≤ 24; omega) ⟨List.mem_append_right _ (List.mem_singleton.mpr rfl), (by show (if q1 = q1 then _ else _) = _; rw [if_pos rfl])⟩ (fun pt' sq' fo' LP' PF' h3 => hp _ _ _ _ _ _ _ ?_)
  rw [h.pl] at h3 ⊢
  exact h3
theorem q_openLevel {S : TS} {noW emW : Nat} {dp pl : Int32} {ch sq pt : Nat → Option Nat} {fo lt : Nat → Int32} {LP : List Nat} {PF : Nat → Pc} (h : CTx S noW emW dp pl ch sq pt fo lt LP PF) (hd : S.d < 4) {post : Int32 → (Nat → Option Nat) → (Nat → Option Nat) → (Nat → Option Nat) → Prop}
    (hp : ∀ ch' sq' pt', CTx (openT S) noW emW (nI (S.d + 1)) pl ch' sq' pt' fo lt LP PF → post (nI (S.d + 1)) ch' sq' pt') : p_RuleText_openLevel noW emW ch sq pt LP (nI (S.d + 1)) post := by
  have hv : vp_in (nI (S.d + 1)) 5 := vp_in_nI (by omega) (by omega)
  unfold p_RuleText_openLevel
  rw [nI_clamp (n := S.d + 1) (by omega)]
  refine ⟨hv, h.noW.1, hv, h.emW.1, hv, hp _ _ _ ⟨by show S.d + 1 ≤ 4; omega, rfl, h.pl, fun e he => ?_, fun e he => ?_, fun e he => ?_, h.fo, h.lt, h.noW, h.emW⟩⟩
  · have he : e ≤ S.d + 1 := he
    show At LP PF (va_up ch (S.d + 1) (some noW) e) (upF S.ch (S.d + 1) (0, 0, 0) e)
    by_cases y : e = S.d + 1
    · subst y; rw [vu_s, upF_s]; exact ⟨noW, rfl, h.noW.1, h.noW.2⟩
    · rw [vu_n y, upF_n y]; exact h.ch e (by omega)
  · have he : e ≤ S.d + 1 := he
    show At LP PF (va_up sq (S.d + 1) (some emW) e) (upF S.sq (S.d + 1) (0, 0, 1) e)
    by_cases y : e = S.d + 1
    · subst y; rw [vu_s, upF_s]; exact ⟨emW, rfl, h.emW.1, h.emW.2⟩
    · rw [vu_n y, upF_n y]; exact h.sq e (by omega)
  · have he : e ≤ S.d + 1 := he
    show AtO LP PF (va_up pt (S.d + 1) none e) (upF S.pt (S.d + 1) none e)
    by_cases y : e = S.d + 1
    · subst y; rw [vu_s, upF_s]; rfl
    · rw [vu_n y, upF_n y]; exact h.pt e (by omega)
theorem q_openGroup {S : TS} {noW emW : Nat} {dp pl : Int32} {ch sq pt : Nat → Option Nat} {fo lt : Nat → Int32} {LP : List Nat} {PF : Nat → Pc} (h : CTx S noW emW dp pl ch sq pt fo lt LP PF) {post : Int32 → Int32 → (Nat → Option Nat) → (Nat → Option Nat) → (Nat → Option Nat) → Prop}
    (h0 : ¬ S.d < 4 → ∀ a b c e, post 0 a b c e) (h1 : S.d < 4 → ∀ dp' ch' sq' pt', CTx (openT S) noW emW dp' pl ch' sq' pt' fo lt LP PF → post 1 dp' ch' sq' pt') : p_RuleText_openGroup noW emW dp ch sq pt LP post := by
  have hd := h.d4
  unfold p_RuleText_openGroup
  rw [h.dp]
  by_cases hlt : S.d < 4
  · refine ⟨fun _ => ?_, fun z => absurd (nI_lt (b := 4) hlt (by omega)) z⟩
    rw [nI_1]
    exact q_openLevel h hlt (fun ch' sq' pt' hC => h1 hlt _ _ _ _ hC)
  · exact ⟨fun z => absurd z (nI_nlt (b := 4) (by omega) (by omega)), fun _ => h0 hlt _ _ _ _⟩
theorem q_closeGroup {S : TS} {noW emW : Nat} {dp pl : Int32} {ch sq pt : Nat → Option Nat} {fo lt : Nat → Int32} {LP : List Nat} {PF : Nat → Pc} (h : CTx S noW emW dp pl ch sq pt fo lt LP PF) (hq : S.q ≤ 24) {post : Int32 → Int32 → (Nat → Option Nat) → (Nat → Option Nat) → (Nat → Int32) → (Nat → Option Nat) → List Nat → (Nat → Pc) → Prop}
    (h0 : (S.d = 0 ∨ S.pt S.d = none) → ∀ a b c e f, post 0 a b c e f LP PF) (h1 : S.d ≠ 0 → S.pt S.d ≠ none → ∀ dp' pt' sq' fo' ch' LP' PF', CTx (closeT S) noW emW dp' pl ch' sq' pt' fo' lt LP' PF' → post 1 dp' pt' sq' fo' ch' LP' PF') : p_RuleText_closeGroup emW dp pl pt sq fo ch LP PF post := by
  have hd := h.d4
  refine ⟨fun z => h0 (Or.inl ?_) _ _ _ _ _, fun z => ?_⟩
  · rw [h.dp] at z
    exact (nI_eq (b := 0) (by omega) (by omega)).mp z
  · have hd0 : S.d ≠ 0 := fun e => z (by rw [h.dp, e]; rfl)
    refine q_endSeq h hq (fun e => ⟨fun y => absurd rfl y, fun _ => h0 (Or.inr e) _ _ _ _ _⟩) (fun hne pt2 sq2 fo2 ch2 LP2 PF2 h2 => ⟨fun _ => ?_, fun y => absurd y (by decide)⟩)
    have e1 : dp - 1 + 1 = nI S.d := by rw [h.dp, show S.d = S.d - 1 + 1 by omega, nI_pred, nI_1]
    have e2 : dp - 1 = nI (S.d - 1) := by rw [h.dp, show S.d = S.d - 1 + 1 by omega, nI_pred]; simp
    obtain ⟨jd, jq, jl, jc⟩ := join_d S
    have hed : (endT S).d = S.d := jd
    obtain ⟨c, ec, mc, pc⟩ := h2.ch S.d (by rw [hed]; exact Nat.le_refl _)
    rw [e1, nI_clamp (n := S.d) (by omega), e2]
    refine ⟨vp_in_nI (by omega) (by omega), (fun z0 => by rw [ec] at z0; cases z0), fun z8 hz8 => ?_⟩
    rw [ec] at hz8
    have hz8 := Option.some.inj hz8
    subst hz8
    have h3 : CTx (TS.mk (S.d - 1) (endT S).q (endT S).lt (endT S).fo (endT S).ch (endT S).sq (endT S).pt) noW emW (nI (S.d - 1)) pl ch2 sq2 pt2 fo2 lt LP2 PF2 := by
      refine ⟨by show S.d - 1 ≤ 4; omega, rfl, h2.pl, fun e he => h2.ch e ?_, fun e he => h2.sq e ?_, fun e he => h2.pt e ?_, h2.fo, h2.lt, h2.noW, h2.emW⟩
      all_goals
        have he : e ≤ S.d - 1 := he
        rw [hed]; omega
    refine q_addPart h3 (by show (joinT S).q ≤ 24; rw [jq]; exact hq) ⟨mc, pc⟩ (fun pt' sq' fo' LP' PF' hC => h1 hd0 hne _ _ _ _ _ _ _ hC)
theorem q_repeat {S : TS} {noW emW : Nat} {dp pl : Int32} {ch sq pt : Nat → Option Nat} {fo lt : Nat → Int32} {LP : List Nat} {PF : Nat → Pc} (h : CTx S noW emW dp pl ch sq pt fo lt LP PF) (hq : S.q ≤ 24) {x : Int32} {post : Int32 → (Nat → Option Nat) → (Nat → Int32) → List Nat → (Nat → Pc) → Prop}
    (h0 : S.pt S.d = none → ∀ a b, post 0 a b LP PF) (h1 : ∀ P, S.pt S.d = some P → ∀ pt' fo' LP' PF', CTx (repT S P (decide (x = 43)) (decide (x = 63))) noW emW dp pl ch sq pt' fo' lt LP' PF' → post 1 pt' fo' LP' PF') : p_RuleText_repeatPart dp pl pt fo LP PF x post := by
  have hd := h.d4
  have hdv : vp_in dp 5 := by rw [h.dp]; exact vp_in_nI (by omega) (by omega)
  have hdc : dp.toNatClampNeg = S.d := by rw [h.dp, nI_clamp (by omega)]
  have hpt := h.pt S.d (Nat.le_refl _)
  unfold p_RuleText_repeatPart
  rw [hdc]
  cases e : S.pt S.d with
  | none =>
    rw [e] at hpt
    exact ⟨hdv, fun _ => h0 e _ _, fun z1 hz => by rw [show pt S.d = none from hpt] at hz; cases hz⟩
  | some P =>
    rw [e] at hpt
    obtain ⟨z, ez, mz, pz⟩ := hpt
    refine ⟨hdv, (fun z0 => by rw [ez] at z0; cases z0), fun z1 hz1 => ?_⟩
    rw [ez] at hz1
    have hz1 := Option.some.inj hz1
    subst hz1
    have hp := h1 P e
    have hnew : ∀ fo', (∀ p, p < S.q → fo' p = (if decide (x = 63) then S.fo else linkF S.q P.2.1 P.1 S.fo) p) → ¬ x = 43 → ∀ q2, q2 ∉ LP → CTx (repT S P (decide (x = 43)) (decide (x = 63))) noW emW dp pl ch sq (va_up pt S.d (some q2)) fo' lt (LP ++ [q2]) (va_up PF q2 (P.1, P.2.1, 1)) := fun fo' hf hx q2 hq2 => by
      have hC := h.pool hq2 (Q := (P.1, P.2.1, 1))
      unfold repT
      rw [decide_eq_false hx]
      refine ⟨h.d4, h.dp, h.pl, hC.ch, hC.sq, fun e' he' => ?_, hf, h.lt, hC.noW, hC.emW⟩
      show AtO _ _ (va_up pt S.d (some q2) e') (upF S.pt S.d (some (P.1, P.2.1, 1)) e')
      by_cases w : e' = S.d
      · subst w; rw [vu_s, upF_s]; exact At.new
      · rw [vu_n w, upF_n w]; exact hC.pt e' he'
    have hold : ∀ fo', (∀ p, p < S.q → fo' p = (if decide (x = 63) then S.fo else linkF S.q P.2.1 P.1 S.fo) p) → x = 43 → CTx (repT S P (decide (x = 43)) (decide (x = 63))) noW emW dp pl ch sq pt fo' lt LP PF := fun fo' hf hx => by
      unfold repT
      rw [decide_eq_true hx]
      exact ⟨h.d4, h.dp, h.pl, h.ch, h.sq, h.pt, hf, h.lt, h.noW, h.emW⟩
    refine ⟨fun x63 => ⟨fun x43 => hp _ _ _ _ (hold fo (fun p hpq => ?_) x43), fun x43 => ⟨mz, Or.inr rfl, fun q2 hq2 => ⟨hdv, List.mem_append_right _ (List.mem_singleton.mpr rfl), ?_⟩⟩⟩, fun x63 => ⟨mz, mz, ?_⟩⟩
    · rw [decide_eq_true x63, if_pos rfl]; exact h.fo p hpq
    · rw [pz]
      exact hp _ _ _ _ (hnew fo (fun p hpq => by rw [decide_eq_true x63, if_pos rfl]; exact h.fo p hpq) x43 q2 hq2)
    · rw [h.pl]
      refine q_link hq h.fo (x := (PF z).2.1) (y := (PF z).1) (fun g hg => ⟨fun x43 => ?_, fun x43 => ⟨mz, Or.inr rfl, fun q8 hq8 => ⟨hdv, List.mem_append_right _ (List.mem_singleton.mpr rfl), ?_⟩⟩⟩)
      · exact hp _ _ _ _ (hold g (fun p hpq => by rw [decide_eq_false x63, hg p hpq, pz]; rfl) x43)
      · rw [pz]
        exact hp _ _ _ _ (hnew g (fun p hpq => by rw [decide_eq_false x63, hg p hpq, pz]; rfl) x43 q8 hq8)