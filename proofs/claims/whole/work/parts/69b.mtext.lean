/-! The reference's reader: rows, groups, places -/
theorem orP_bb {a b : Pc} {p : Nat} (ha : tb a.2.1 p = false) (hb : tb b.2.1 p = false) : tb (orP a b).2.1 p = false := by
  unfold orP
  show tb (a.2.1 ||| b.2.1) p = false
  rw [tb_or, ha, hb]; rfl
theorem orP_bz (a b : Pc) : bz (orP a b).2.2 := by
  unfold orP
  show bz (if a.2.2 = 0 ∧ b.2.2 = 0 then 0 else 1)
  split
  · exact Or.inl rfl
  · exact Or.inr rfl
theorem endBB {S : TS} (h : BB S) : BB (endT S) := by
  have hj := joinBB h
  obtain ⟨jd, jq, -, jc⟩ := join_d S
  have hsq := hj.sq S.d (by rw [jd]; exact Nat.le_refl _)
  refine ⟨fun e he p hp => ?_, fun e he p hp => ?_, hj.pt, fun e he => ?_, hj.ptb⟩
  · show tb (upF (joinT S).sq S.d (0, 0, 1) e).2.1 p = false
    by_cases y : e = S.d
    · subst y; rw [upF_s]; exact tb_0 p
    · rw [upF_n y]; exact hj.sq e he p hp
  · show tb (upF S.ch S.d (orP (S.ch S.d) ((joinT S).sq S.d)) e).2.1 p = false
    have he : e ≤ (joinT S).d := he
    have hp : (joinT S).q ≤ p := hp
    rw [jd] at he
    by_cases y : e = S.d
    · subst y; rw [upF_s]
      exact orP_bb (h.ch _ he p (by rw [← jq]; exact hp)) (hsq p hp)
    · rw [upF_n y]; exact h.ch e he p (by rw [← jq]; exact hp)
  · show bz (upF S.ch S.d (orP (S.ch S.d) ((joinT S).sq S.d)) e).2.2
    have he : e ≤ (joinT S).d := he
    rw [jd] at he
    by_cases y : e = S.d
    · subst y; rw [upF_s]; exact orP_bz _ _
    · rw [upF_n y]; exact h.chb e he
theorem addBB {S : TS} (h : BB S) {P : Pc} (hP : ∀ p, S.q ≤ p → tb P.2.1 p = false) (hz : bz P.2.2) : BB (addT S P) := by
  have hj := joinBB h
  obtain ⟨jd, jq, -, -⟩ := join_d S
  refine ⟨hj.sq, hj.ch, fun e Q he hQ p hp => ?_, hj.chb, fun e Q he hQ => ?_⟩
  · have hQ : upF (joinT S).pt S.d (some P) e = some Q := hQ
    have hp : (joinT S).q ≤ p := hp
    by_cases y : e = S.d
    · subst y; rw [upF_s] at hQ; cases hQ; exact hP p (by rw [← jq]; exact hp)
    · rw [upF_n y] at hQ; exact hj.pt e Q he hQ p hp
  · have hQ : upF (joinT S).pt S.d (some P) e = some Q := hQ
    by_cases y : e = S.d
    · subst y; rw [upF_s] at hQ; cases hQ; exact hz
    · rw [upF_n y] at hQ; exact hj.ptb e Q he hQ
theorem q_endRow {S : TS} {rd dp : Int32} {hp rl pf rb rf re pl pe cf cl ce rlt : Nat → Int32} (h : RTx S rd dp hp rl pf rb rf re pl pe cf cl ce rlt) (hq : S.q ≤ 24) {post : (Nat → Int32) → (Nat → Int32) → (Nat → Int32) → (Nat → Int32) → (Nat → Int32) → (Nat → Int32) → (Nat → Int32) → (Nat → Int32) → Prop}
    (hpost : ∀ hp' rl' rb' rf' re' cf' cl' ce', RTx (joinT S) rd dp hp' rl' pf rb' rf' re' pl pe cf cl ce rlt → (∀ e, e ≤ S.d → (cf' e, cl' e, ce' e) = (endT S).ch e) → post hp' rl' rb' rf' re' cf' cl' ce') : p_M_endRow rd dp hp rl pf rb rf re pl pe cf cl ce post := by
  have hd := h.d4
  have hv : vp_in dp 6 := by rw [h.dp]; exact vp_in_nI (by omega) (by omega)
  have hdc : dp.toNatClampNeg = S.d := by rw [h.dp, nI_clamp (by omega)]
  obtain ⟨jd, jq, -, jc⟩ := join_d S
  refine q_settle h hq (fun hp' rl' rb' rf' re' hR => ?_)
  rw [hdc]
  have r0 := hR.rd0
  rw [jd] at r0
  have s1 : rf' S.d = ((joinT S).sq S.d).1 := congrArg (fun z => z.1) r0
  have s2 : rl' S.d = ((joinT S).sq S.d).2.1 := congrArg (fun z => z.2.1) r0
  have s3 : re' S.d = ((joinT S).sq S.d).2.2 := congrArg (fun z => z.2.2) r0
  have hc := h.ch S.d (Nat.le_refl _)
  have c1 : cf S.d = (S.ch S.d).1 := congrArg (fun z => z.1) hc
  have c2 : cl S.d = (S.ch S.d).2.1 := congrArg (fun z => z.2.1) hc
  have c3 : ce S.d = (S.ch S.d).2.2 := congrArg (fun z => z.2.2) hc
  have key : ∀ v : Int32, v = (if (S.ch S.d).2.2 = 0 ∧ ((joinT S).sq S.d).2.2 = 0 then 0 else 1) → ∀ e, e ≤ S.d → (upd cf S.d (cf S.d ||| rf' S.d) e, upd cl S.d (cl S.d ||| rl' S.d) e, upd ce S.d v e) = (endT S).ch e := fun v hvv e he => by
    show _ = upF S.ch S.d (orP (S.ch S.d) ((joinT S).sq S.d)) e
    by_cases y : e = S.d
    · subst y
      rw [pk_us, pk_us, pk_us, upF_s, c1, c2, s1, s2, hvv]; rfl
    · rw [pk_un y, pk_un y, pk_un y, upF_n y]; exact h.ch e he
  refine ⟨hv, hv, hv, hv, hv, hv, hv, fun z => ⟨hv, hpost _ _ _ _ _ _ _ _ hR (key _ ?_)⟩, fun z => ⟨hv, fun y => ⟨hv, hpost _ _ _ _ _ _ _ _ hR (key _ ?_)⟩, fun y => ⟨hv, hpost _ _ _ _ _ _ _ _ hR (key _ ?_)⟩⟩⟩
  · rw [nar1, if_neg (fun q => z (by rw [c3]; exact q.1))]
  · rw [nar0, if_pos ⟨by rw [← c3]; exact z, by rw [← s3]; exact y⟩]
  · rw [nar1, if_neg (fun q => y (by rw [s3]; exact q.2))]
/-- part: what was under way is settled, and a new part begins -/
theorem q_part {S : TS} {rd dp : Int32} {hp rl pf rb rf re pl pe cf cl ce rlt : Nat → Int32} (h : RTx S rd dp hp rl pf rb rf re pl pe cf cl ce rlt) (hq : S.q ≤ 24) {P : Pc} (hP : ∀ p, S.q ≤ p → tb P.2.1 p = false) (hz : bz P.2.2) {post : (Nat → Int32) → (Nat → Int32) → (Nat → Int32) → (Nat → Int32) → (Nat → Int32) → (Nat → Int32) → (Nat → Int32) → (Nat → Int32) → Prop}
    (hpost : ∀ hp' rl' pf' rb' rf' re' pl' pe', RTx (addT S P) rd dp hp' rl' pf' rb' rf' re' pl' pe' cf cl ce rlt → post hp' rl' pf' rb' rf' re' pl' pe') : p_M_part rd dp hp rl pf rb rf re pl pe P.1 P.2.1 P.2.2 post := by
  have hd := h.d4
  have hv : vp_in dp 6 := by rw [h.dp]; exact vp_in_nI (by omega) (by omega)
  have hdc : dp.toNatClampNeg = S.d := by rw [h.dp, nI_clamp (by omega)]
  obtain ⟨jd, jq, jl, jc⟩ := join_d S
  have enar : vp_nar .boolean P.2.2 = P.2.2 := by
    rcases hz with z | z
    · rw [z, nar0]
    · rw [z, nar1]
  refine q_settle h hq (fun hp' rl' rb' rf' re' hR => ?_)
  rw [hdc, enar]
  refine ⟨hv, hv, hv, hv, hpost _ _ _ _ _ _ _ _ ?_⟩
  have hrow : ∀ e, e ≠ S.d → rowE (addT S P) e = rowE (joinT S) e := fun e he => by
    show (match upF (joinT S).pt S.d (some P) e with | none => (joinT S).sq e | some P => thenP ((joinT S).sq e) P) = _
    rw [upF_n he]; rfl
  refine ⟨hR.d4, hR.dp, hR.rd, hR.ch, fun e he => ?_, hR.rd0, fun z => ?_, fun Q hQ => ?_, hR.lt, fun p x hpq hx => ?_, addBB h.bb hP hz⟩
  · have he' : e < (joinT S).d := he
    rw [jd] at he'
    have hne : e ≠ S.d := by omega
    rw [pk_un hne, hrow e hne]
    exact hR.rw e he
  · have z : upF (joinT S).pt S.d (some P) (joinT S).d = none := z
    rw [jd, upF_s] at z; cases z
  · have hQ : upF (joinT S).pt S.d (some P) (joinT S).d = some Q := hQ
    rw [jd, upF_s] at hQ
    cases hQ
    show ¬ upd hp' S.d (vp_nar .boolean 1) (joinT S).d = 0 ∧ (upd pf S.d P.1 (joinT S).d, upd pl S.d P.2.1 (joinT S).d, upd pe S.d P.2.2 (joinT S).d) = P
    rw [jd, pk_us, pk_us, pk_us, pk_us, nar1]
    exact ⟨by decide, rfl⟩
  · have hpend : Pend (addT S P) p x ↔ Pend (joinT S) p x := by
      unfold Pend
      constructor
      · rintro ⟨e, Q, he, h1, h2, h3⟩
        have he' : e < (joinT S).d := he
        have h1 : upF (joinT S).pt S.d (some P) e = some Q := h1
        rw [upF_n (by rw [jd] at he'; omega)] at h1
        exact ⟨e, Q, he, h1, h2, h3⟩
      · rintro ⟨e, Q, he, h1, h2, h3⟩
        refine ⟨e, Q, he, ?_, h2, h3⟩
        show upF (joinT S).pt S.d (some P) e = some Q
        rw [upF_n (by rw [jd] at he; omega)]; exact h1
    rw [hpend]
    exact hR.rb p x hpq hx
theorem q_place {S : TS} {rd dp : Int32} {hp rl pf rb rf re pl pe cf cl ce rlt : Nat → Int32} (h : RTx S rd dp hp rl pf rb rf re pl pe cf cl ce rlt) (hq : S.q < 24) {b : Int32} {post : _}
    (hpost : ∀ rd' rlt' rb' hp' rl' pf' rf' re' pl' pe', RTx (placeT S b) rd' dp hp' rl' pf' rb' rf' re' pl' pe' cf cl ce rlt' → post rd' rlt' rb' hp' rl' pf' rf' re' pl' pe') : p_M_place rd dp rlt rb hp rl pf rf re pl pe b post := by
  have hrc : rd.toNatClampNeg = S.q := by rw [h.rd, nI_clamp (by omega)]
  have hrv : vp_in rd 24 := by rw [h.rd]; exact vp_in_nI hq (by omega)
  have e1 : rd + 1 - 1 = nI S.q := by rw [h.rd, nI_1, nI_pred]
  unfold p_M_place
  rw [hrc, e1]
  have hbb := h.bb
  have h2 : RTx (TS.mk S.d (S.q + 1) (upF S.lt S.q b) (upF S.fo S.q 0) S.ch S.sq S.pt) (rd + 1) dp hp rl pf (upd rb S.q 0) rf re pl pe cf cl ce (upd rlt S.q b) := by
    refine ⟨h.d4, h.dp, by rw [h.rd]; exact nI_1 S.q, h.ch, h.rw, h.rd0, h.h0, h.h1, fun p hp2 => ?_, fun p x hp2 hx => ?_, ⟨fun e he p hp2 => hbb.sq e he p (by have hp2 : S.q + 1 ≤ p := hp2; omega), fun e he p hp2 => hbb.ch e he p (by have hp2 : S.q + 1 ≤ p := hp2; omega), fun e P he hP p hp2 => hbb.pt e P he hP p (by have hp2 : S.q + 1 ≤ p := hp2; omega), hbb.chb, hbb.ptb⟩⟩
    · have hp2 : p < S.q + 1 := hp2
      show upd rlt S.q b p = upF S.lt S.q b p
      by_cases y : p = S.q
      · subst y; rw [pk_us, upF_s]
      · rw [pk_un y, upF_n y]; exact h.lt p (by omega)
    · have hp2 : p < S.q + 1 := hp2
      show tb (upd rb S.q 0 p) x = true ↔ tb (upF S.fo S.q 0 p) x = true ∨ Pend S p x
      by_cases y : p = S.q
      · subst y; rw [pk_us, upF_s]
        refine ⟨Or.inl, fun z => z.elim id (fun ⟨e, P, he, h1, h2, h3⟩ => ?_)⟩
        rw [hbb.sq e (by omega) S.q (Nat.le_refl _)] at h2; cases h2
      · rw [pk_un y, upF_n y]; exact h.rb p x (by omega) hx
  refine ⟨hrv, hrv, ?_⟩
  refine q_part (P := ((1 : Int32) <<< (nI S.q &&& 31), (1 : Int32) <<< (nI S.q &&& 31), 0)) h2 (by show S.q + 1 ≤ 24; omega) (fun p hp2 => ?_) (Or.inl rfl) (fun hp' rl' pf' rb' rf' re' pl' pe' hR => hpost _ _ _ _ _ _ _ _ _ _ hR)
  have hp2 : S.q + 1 ≤ p := hp2
  show tb ((1 : Int32) <<< (nI S.q &&& 31)) p = false
  rw [tb_bit (by omega)]
  simp; omega
theorem q_bar {S : TS} {rd dp : Int32} {hp rl pf rb rf re pl pe cf cl ce rlt : Nat → Int32} (h : RTx S rd dp hp rl pf rb rf re pl pe cf cl ce rlt) (hq : S.q ≤ 24) {post : (Nat → Int32) → (Nat → Int32) → (Nat → Int32) → (Nat → Int32) → (Nat → Int32) → (Nat → Int32) → (Nat → Int32) → (Nat → Int32) → Prop}
    (hpost : ∀ hp' rl' rb' rf' re' cf' cl' ce', RTx (endT S) rd dp hp' rl' pf rb' rf' re' pl pe cf' cl' ce' rlt → post hp' rl' rb' rf' re' cf' cl' ce') : p_M_endRow rd dp hp rl pf rb rf re pl pe cf cl ce (fun u1 u2 u3 u4 u5 u6 u7 u8 => p_M_beginRow dp u4 u2 u5 u1 (fun v1 v2 v3 v4 => post v4 v2 u3 v1 v3 u6 u7 u8)) := by
  have hd := h.d4
  have hv : vp_in dp 6 := by rw [h.dp]; exact vp_in_nI (by omega) (by omega)
  have hdc : dp.toNatClampNeg = S.d := by rw [h.dp, nI_clamp (by omega)]
  obtain ⟨jd, jq, jl, jc⟩ := join_d S
  refine q_endRow h hq (fun hp' rl' rb' rf' re' cf' cl' ce' hR hC => ?_)
  unfold p_M_beginRow
  rw [hdc, nar0, nar1]
  refine ⟨hv, hv, hv, hv, hpost _ _ _ _ _ _ _ _ ?_⟩
  have hrow : ∀ e, e ≠ S.d → rowE (endT S) e = rowE (joinT S) e := fun e he => by
    show (match (joinT S).pt e with | none => upF (joinT S).sq S.d (0, 0, 1) e | some P => thenP (upF (joinT S).sq S.d (0, 0, 1) e) P) = _
    rw [upF_n he]; rfl
  refine ⟨hR.d4, hR.dp, hR.rd, fun e he => hC e (by have he : e ≤ (joinT S).d := he; rw [jd] at he; exact he), fun e he => ?_, ?_, fun _ => ?_, fun Q hQ => ?_, hR.lt, fun p x hpq hx => ?_, endBB h.bb⟩
  · have he' : e < (joinT S).d := he
    rw [jd] at he'
    have hne : e ≠ S.d := by omega
    rw [pk_un hne, pk_un hne, pk_un hne, pk_un hne, hrow e hne]
    exact hR.rw e he
  · show (upd rf' S.d 0 (joinT S).d, upd rl' S.d 0 (joinT S).d, upd re' S.d 1 (joinT S).d) = upF (joinT S).sq S.d (0, 0, 1) (joinT S).d
    rw [jd, pk_us, pk_us, pk_us, upF_s]
  · show upd hp' S.d 0 (joinT S).d = 0
    rw [jd, pk_us]
  · have hQ : (joinT S).pt (joinT S).d = some Q := hQ
    rw [jd, join_pt] at hQ; cases hQ
  · have hpend : Pend (endT S) p x ↔ Pend (joinT S) p x := by
      unfold Pend
      constructor
      · rintro ⟨e, Q, he, h1, h2, h3⟩
        have he' : e < (joinT S).d := he
        have h2 : tb (upF (joinT S).sq S.d (0, 0, 1) e).2.1 p = true := h2
        rw [upF_n (by rw [jd] at he'; omega)] at h2
        exact ⟨e, Q, he, h1, h2, h3⟩
      · rintro ⟨e, Q, he, h1, h2, h3⟩
        refine ⟨e, Q, he, h1, ?_, h3⟩
        show tb (upF (joinT S).sq S.d (0, 0, 1) e).2.1 p = true
        rw [upF_n (by rw [jd] at he; omega)]; exact h2
    rw [hpend]
    exact hR.rb p x hpq hx
theorem q_openG {S : TS} {rd dp : Int32} {hp rl pf rb rf re pl pe cf cl ce rlt : Nat → Int32} (h : RTx S rd dp hp rl pf rb rf re pl pe cf cl ce rlt) (hq : S.q ≤ 24) (hd4 : S.d < 4) {post : (Nat → Int32) → (Nat → Int32) → (Nat → Int32) → (Nat → Int32) → (Nat → Int32) → (Nat → Int32) → (Nat → Int32) → (Nat → Int32) → Prop}
    (hpost : ∀ cf' cl' ce' rf' rl' re' hp' rb', RTx (openT S) rd (dp + 1) hp' rl' pf rb' rf' re' pl pe cf' cl' ce' rlt → post cf' cl' ce' rf' rl' re' hp' rb') : p_M_settle rd dp hp rl pf rb rf re pl pe (fun u1 u2 u3 u4 u5 => p_M_open (dp + 1) cf cl ce u4 u2 u5 u1 (fun v1 v2 v3 v4 v5 v6 v7 => post v1 v2 v3 v4 v5 v6 v7 u3)) := by
  obtain ⟨jd, jq, jl, jc⟩ := join_d S
  have e1 : dp + 1 = nI (S.d + 1) := by rw [h.dp, nI_1]
  have hv : vp_in (nI (S.d + 1)) 6 := vp_in_nI (by omega) (by omega)
  refine q_settle h hq (fun hp' rl' rb' rf' re' hR => ?_)
  rw [e1] at hpost ⊢
  unfold p_M_open p_M_beginRow
  rw [nI_clamp (n := S.d + 1) (by omega), nar0, nar1]
  refine ⟨hv, hv, hv, hv, hv, hv, hv, hpost _ _ _ _ _ _ _ _ ?_⟩
  have hbb := h.bb
  refine ⟨by show S.d + 1 ≤ 4; omega, rfl, h.rd, fun e he => ?_, fun e he => ?_, ?_, fun _ => ?_, fun Q hQ => ?_, h.lt, fun p x hpq hx => ?_, ⟨fun e he p hp2 => ?_, fun e he p hp2 => ?_, fun e Q he hQ p hp2 => ?_, fun e he => ?_, fun e Q he hQ => ?_⟩⟩
  · have he : e ≤ S.d + 1 := he
    show (upd cf (S.d + 1) 0 e, upd cl (S.d + 1) 0 e, upd ce (S.d + 1) 0 e) = upF S.ch (S.d + 1) (0, 0, 0) e
    by_cases y : e = S.d + 1
    · subst y; rw [pk_us, pk_us, pk_us, upF_s]
    · rw [pk_un y, pk_un y, pk_un y, upF_n y]; exact h.ch e (by omega)
  · have he : e < S.d + 1 := he
    have hne : e ≠ S.d + 1 := by omega
    rw [pk_un hne, pk_un hne, pk_un hne, pk_un hne]
    have hro : rowE (openT S) e = rowE S e := by
      show (match upF S.pt (S.d + 1) none e with | none => upF S.sq (S.d + 1) (0, 0, 1) e | some P => thenP (upF S.sq (S.d + 1) (0, 0, 1) e) P) = _
      rw [upF_n hne, upF_n hne]; rfl
    rw [hro]
    by_cases y : e = S.d
    · subst y
      have r0 := hR.rd0
      rw [jd] at r0
      refine ⟨?_, ?_⟩
      · rw [r0]
        unfold rowE joinT
        cases e2 : S.pt S.d with
        | none => rfl
        | some P => exact upF_s
      · have := hR.h0 (by rw [jd]; exact join_pt S)
        rw [jd] at this; exact this
    · have := hR.rw e (by rw [jd]; omega)
      have hj : rowE (joinT S) e = rowE S e := by
        unfold joinT
        cases e2 : S.pt S.d with
        | none => rfl
        | some P =>
          show (match upF S.pt S.d none e with | none => upF S.sq S.d _ e | some P => thenP (upF S.sq S.d _ e) P) = _
          rw [upF_n y, upF_n y]; rfl
      rw [hj] at this
      exact this
  · show (upd rf' (S.d + 1) 0 (S.d + 1), upd rl' (S.d + 1) 0 (S.d + 1), upd re' (S.d + 1) 1 (S.d + 1)) = upF S.sq (S.d + 1) (0, 0, 1) (S.d + 1)
    rw [pk_us, pk_us, pk_us, upF_s]
  · show upd hp' (S.d + 1) 0 (S.d + 1) = 0
    rw [pk_us]
  · have hQ : upF S.pt (S.d + 1) none (S.d + 1) = some Q := hQ
    rw [upF_s] at hQ; cases hQ
  · have hpq' : p < S.q := hpq
    rw [hR.rb p x (by rw [jq]; exact hpq') hx]
    show tb ((joinT S).fo p) x = true ∨ Pend (joinT S) p x ↔ tb (S.fo p) x = true ∨ Pend (openT S) p x
    have hope : Pend (openT S) p x ↔ Pend S p x ∨ ∃ P, S.pt S.d = some P ∧ tb (S.sq S.d).2.1 p = true ∧ tb P.1 x = true := by
      unfold Pend
      constructor
      · rintro ⟨e, Q, he, h1, h2, h3⟩
        have he : e < S.d + 1 := he
        have h1 : upF S.pt (S.d + 1) none e = some Q := h1
        have h2 : tb (upF S.sq (S.d + 1) (0, 0, 1) e).2.1 p = true := h2
        rw [upF_n (by omega)] at h1 h2
        by_cases y : e = S.d
        · subst y; exact Or.inr ⟨Q, h1, h2, h3⟩
        · exact Or.inl ⟨e, Q, by omega, h1, h2, h3⟩
      · rintro (⟨e, Q, he, h1, h2, h3⟩ | ⟨Q, h1, h2, h3⟩)
        · refine ⟨e, Q, by show e < S.d + 1; omega, ?_, ?_, h3⟩
          · show upF S.pt (S.d + 1) none e = some Q
            rw [upF_n (by omega)]; exact h1
          · show tb (upF S.sq (S.d + 1) (0, 0, 1) e).2.1 p = true
            rw [upF_n (by omega)]; exact h2
        · refine ⟨S.d, Q, by show S.d < S.d + 1; omega, ?_, ?_, h3⟩
          · show upF S.pt (S.d + 1) none S.d = some Q
            rw [upF_n (by omega)]; exact h1
          · show tb (upF S.sq (S.d + 1) (0, 0, 1) S.d).2.1 p = true
            rw [upF_n (by omega)]; exact h2
    rw [hope]
    cases e2 : S.pt S.d with
    | none =>
      have ej : joinT S = S := by unfold joinT; rw [e2]
      rw [ej]
      exact ⟨fun z => z.elim Or.inl (fun y => Or.inr (Or.inl y)), fun z => z.elim Or.inl (fun y => y.elim Or.inr (fun ⟨P, w, _⟩ => by cases w))⟩
    | some P =>
      have ej : joinT S = TS.mk S.d S.q S.lt (linkF S.q (S.sq S.d).2.1 P.1 S.fo) S.ch (upF S.sq S.d (thenP (S.sq S.d) P)) (upF S.pt S.d none) := by unfold joinT; rw [e2]
      have hpj : Pend (joinT S) p x ↔ Pend S p x := by
        rw [ej]
        unfold Pend
        constructor
        · rintro ⟨e, Q, he, h1, h2, h3⟩
          have he : e < S.d := he
          have h1 : upF S.pt S.d none e = some Q := h1
          have h2 : tb (upF S.sq S.d (thenP (S.sq S.d) P) e).2.1 p = true := h2
          rw [upF_n (by omega)] at h1 h2
          exact ⟨e, Q, he, h1, h2, h3⟩
        · rintro ⟨e, Q, he, h1, h2, h3⟩
          refine ⟨e, Q, he, ?_, ?_, h3⟩
          · show upF S.pt S.d none e = some Q
            rw [upF_n (by omega)]; exact h1
          · show tb (upF S.sq S.d (thenP (S.sq S.d) P) e).2.1 p = true
            rw [upF_n (by omega)]; exact h2
      rw [hpj, ej]
      show tb (linkF S.q (S.sq S.d).2.1 P.1 S.fo p) x = true ∨ Pend S p x ↔ _
      unfold linkF
      by_cases y : p < S.q ∧ tb (S.sq S.d).2.1 p = true
      · rw [if_pos y, tb_or, Bool.or_eq_true]
        constructor
        · rintro ((a | a) | a)
          · exact Or.inl a
          · exact Or.inr (Or.inr ⟨P, rfl, y.2, a⟩)
          · exact Or.inr (Or.inl a)
        · rintro (a | a | ⟨Q, h1, h2, h3⟩)
          · exact Or.inl (Or.inl a)
          · exact Or.inr a
          · cases h1; exact Or.inl (Or.inr h3)
      · rw [if_neg y]
        exact ⟨fun z => z.elim Or.inl (fun w => Or.inr (Or.inl w)), fun z => z.elim Or.inl (fun w => w.elim Or.inr (fun ⟨Q, h1, h2, h3⟩ => absurd ⟨hpq', h2⟩ y))⟩
  · have he : e ≤ S.d + 1 := he
    show tb (upF S.sq (S.d + 1) (0, 0, 1) e).2.1 p = false
    by_cases y : e = S.d + 1
    · subst y; rw [upF_s]; exact tb_0 p
    · rw [upF_n y]; exact hbb.sq e (by omega) p hp2
  · have he : e ≤ S.d + 1 := he
    show tb (upF S.ch (S.d + 1) (0, 0, 0) e).2.1 p = false
    by_cases y : e = S.d + 1
    · subst y; rw [upF_s]; exact tb_0 p
    · rw [upF_n y]; exact hbb.ch e (by omega) p hp2
  · have he : e ≤ S.d + 1 := he
    have hQ : upF S.pt (S.d + 1) none e = some Q := hQ
    by_cases y : e = S.d + 1
    · subst y; rw [upF_s] at hQ; cases hQ
    · rw [upF_n y] at hQ; exact hbb.pt e Q (by omega) hQ p hp2
  · have he : e ≤ S.d + 1 := he
    show bz (upF S.ch (S.d + 1) (0, 0, 0) e).2.2
    by_cases y : e = S.d + 1
    · subst y; rw [upF_s]; exact Or.inl rfl
    · rw [upF_n y]; exact hbb.chb e (by omega)
  · have he : e ≤ S.d + 1 := he
    have hQ : upF S.pt (S.d + 1) none e = some Q := hQ
    by_cases y : e = S.d + 1
    · subst y; rw [upF_s] at hQ; cases hQ
    · rw [upF_n y] at hQ; exact hbb.ptb e Q (by omega) hQ