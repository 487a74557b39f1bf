/-! The reference's reader: a group's end; *, + and ? -/
theorem join_none {S : TS} (h : S.pt S.d = none) : joinT S = S := by
  unfold joinT; rw [h]
theorem join_some {S : TS} {P : Pc} (h : S.pt S.d = some P) : joinT S = TS.mk S.d S.q S.lt (linkF S.q (S.sq S.d).2.1 P.1 S.fo) S.ch (upF S.sq S.d (thenP (S.sq S.d) P)) (upF S.pt S.d none) := by
  unfold joinT; rw [h]
theorem rowE_none {S : TS} {e : Nat} (h : S.pt e = none) : rowE S e = S.sq e := by
  unfold rowE; rw [h]
theorem rowE_some {S : TS} {e : Nat} {P : Pc} (h : S.pt e = some P) : rowE S e = thenP (S.sq e) P := by
  unfold rowE; rw [h]
theorem rowE_join {S : TS} {e : Nat} (h : e ≠ S.d) : rowE (joinT S) e = rowE S e := by
  unfold joinT
  cases e2 : S.pt S.d with
  | none => rfl
  | some P =>
    show (match upF S.pt S.d none e with | none => upF S.sq S.d _ e | some P => thenP (upF S.sq S.d _ e) P) = _
    rw [upF_n h, upF_n h]; rfl
/-- a level below, with what waits there settled -/
theorem RTx.down {U : TS} {rd dp dp' : Int32} {hp rl pf rb rf re pl pe cf cl ce rlt : Nat → Int32} {m : Nat} (hm : U.d = m + 1) (hd4 : U.d ≤ 4) (hdp : dp' = nI m) (hrd : rd = nI U.q) (hch : ∀ e, e ≤ m → (cf e, cl e, ce e) = U.ch e) (hrw : ∀ e, e < U.d → (rf e, rl e, re e) = rowE U e ∧ hp e = 0) (hlt : ∀ p, p < U.q → rlt p = U.lt p)
    (hrb : ∀ p x, p < U.q → x < 32 → (tb (rb p) x = true ↔ tb (U.fo p) x = true ∨ Pend U p x)) (hbb : BB U) : RTx (joinT (TS.mk m U.q U.lt U.fo U.ch U.sq U.pt)) rd dp' hp rl pf rb rf re pl pe cf cl ce rlt := by
  obtain ⟨jd, jq, jl, jc⟩ := join_d (TS.mk m U.q U.lt U.fo U.ch U.sq U.pt)
  have jd : (joinT (TS.mk m U.q U.lt U.fo U.ch U.sq U.pt)).d = m := jd
  have jq : (joinT (TS.mk m U.q U.lt U.fo U.ch U.sq U.pt)).q = U.q := jq
  have jl : (joinT (TS.mk m U.q U.lt U.fo U.ch U.sq U.pt)).lt = U.lt := jl
  have jc : (joinT (TS.mk m U.q U.lt U.fo U.ch U.sq U.pt)).ch = U.ch := jc
  have hbb2 : BB (TS.mk m U.q U.lt U.fo U.ch U.sq U.pt) := by
    refine ⟨fun e he p hp2 => hbb.sq e ?_ p hp2, fun e he p hp2 => hbb.ch e ?_ p hp2, fun e P he hP p hp2 => hbb.pt e P ?_ hP p hp2, fun e he => hbb.chb e ?_, fun e P he hP => hbb.ptb e P ?_ hP⟩
    all_goals
      have he : e ≤ m := he
      omega
  have hjpt : (joinT (TS.mk m U.q U.lt U.fo U.ch U.sq U.pt)).pt m = none := join_pt (TS.mk m U.q U.lt U.fo U.ch U.sq U.pt)
  have hsq : (joinT (TS.mk m U.q U.lt U.fo U.ch U.sq U.pt)).sq m = rowE U m := by
    cases e2 : U.pt m with
    | none =>
      rw [join_none (S := TS.mk m U.q U.lt U.fo U.ch U.sq U.pt) e2, rowE_none e2]
      try rfl
    | some P =>
      rw [join_some (S := TS.mk m U.q U.lt U.fo U.ch U.sq U.pt) e2, rowE_some e2]
      exact upF_s
  refine ⟨by rw [jd]; omega, by rw [jd]; exact hdp, by rw [jq]; exact hrd, fun e he => by rw [jc]; rw [jd] at he; exact hch e he, fun e he => ?_, ?_, fun _ => ?_, fun Q hQ => ?_, fun p hp2 => by rw [jl]; rw [jq] at hp2; exact hlt p hp2, fun p x hpq hx => ?_, joinBB hbb2⟩
  · rw [jd] at he
    have : rowE (joinT (TS.mk m U.q U.lt U.fo U.ch U.sq U.pt)) e = rowE U e := by
      rw [rowE_join (show e ≠ m by omega)]; rfl
    rw [this]
    exact hrw e (by omega)
  · rw [jd, hsq]; exact (hrw m (by omega)).1
  · rw [jd]; exact (hrw m (by omega)).2
  · rw [jd, hjpt] at hQ; cases hQ
  · rw [jq] at hpq
    rw [hrb p x hpq hx]
    have hU : Pend U p x ↔ (∃ e P, e < m ∧ U.pt e = some P ∧ tb (U.sq e).2.1 p = true ∧ tb P.1 x = true) ∨ ∃ P, U.pt m = some P ∧ tb (U.sq m).2.1 p = true ∧ tb P.1 x = true := by
      unfold Pend
      constructor
      · rintro ⟨e, P, he, h1, h2, h3⟩
        by_cases y : e = m
        · subst y; exact Or.inr ⟨P, h1, h2, h3⟩
        · exact Or.inl ⟨e, P, by omega, h1, h2, h3⟩
      · rintro (⟨e, P, he, h1, h2, h3⟩ | ⟨P, h1, h2, h3⟩)
        · exact ⟨e, P, by omega, h1, h2, h3⟩
        · exact ⟨m, P, by omega, h1, h2, h3⟩
    rw [hU]
    cases e2 : U.pt m with
    | none =>
      have ej : joinT (TS.mk m U.q U.lt U.fo U.ch U.sq U.pt) = TS.mk m U.q U.lt U.fo U.ch U.sq U.pt := join_none (S := TS.mk m U.q U.lt U.fo U.ch U.sq U.pt) e2
      rw [ej]
      show tb (U.fo p) x = true ∨ _ ↔ tb (U.fo p) x = true ∨ Pend (TS.mk m U.q U.lt U.fo U.ch U.sq U.pt) p x
      constructor
      · rintro (a | ⟨e, P, he, h1, h2, h3⟩ | ⟨P, h1, -⟩)
        · exact Or.inl a
        · exact Or.inr ⟨e, P, he, h1, h2, h3⟩
        · cases h1
      · rintro (a | ⟨e, P, he, h1, h2, h3⟩)
        · exact Or.inl a
        · exact Or.inr (Or.inl ⟨e, P, he, h1, h2, h3⟩)
    | some P =>
      have ej : joinT (TS.mk m U.q U.lt U.fo U.ch U.sq U.pt) = TS.mk m U.q U.lt (linkF U.q (U.sq m).2.1 P.1 U.fo) U.ch (upF U.sq m (thenP (U.sq m) P)) (upF U.pt m none) := join_some (S := TS.mk m U.q U.lt U.fo U.ch U.sq U.pt) e2
      rw [ej]
      show tb (U.fo p) x = true ∨ _ ↔ tb (linkF U.q (U.sq m).2.1 P.1 U.fo p) x = true ∨ Pend (TS.mk m U.q U.lt (linkF U.q (U.sq m).2.1 P.1 U.fo) U.ch (upF U.sq m (thenP (U.sq m) P)) (upF U.pt m none)) p x
      have hpj : Pend (TS.mk m U.q U.lt (linkF U.q (U.sq m).2.1 P.1 U.fo) U.ch (upF U.sq m (thenP (U.sq m) P)) (upF U.pt m none)) p x ↔ ∃ e P, e < m ∧ U.pt e = some P ∧ tb (U.sq e).2.1 p = true ∧ tb P.1 x = true := by
        unfold Pend
        constructor
        · rintro ⟨e, Q, he, h1, h2, h3⟩
          have he : e < m := he
          have h1 : upF U.pt m none e = some Q := h1
          have h2 : tb (upF U.sq m (thenP (U.sq m) P) e).2.1 p = true := h2
          rw [upF_n (by omega)] at h1 h2
          exact ⟨e, Q, he, h1, h2, h3⟩
        · rintro ⟨e, Q, he, h1, h2, h3⟩
          refine ⟨e, Q, he, ?_, ?_, h3⟩
          · show upF U.pt m none e = some Q
            rw [upF_n (by omega)]; exact h1
          · show tb (upF U.sq m (thenP (U.sq m) P) e).2.1 p = true
            rw [upF_n (by omega)]; exact h2
      rw [hpj]
      unfold linkF
      by_cases y : p < U.q ∧ tb (U.sq m).2.1 p = true
      · rw [if_pos y, tb_or, Bool.or_eq_true]
        constructor
        · rintro (a | a | ⟨Q, h1, h2, h3⟩)
          · exact Or.inl (Or.inl a)
          · exact Or.inr a
          · cases h1; exact Or.inl (Or.inr h3)
        · rintro ((a | a) | a)
          · exact Or.inl a
          · exact Or.inr (Or.inr ⟨P, rfl, y.2, a⟩)
          · exact Or.inr (Or.inl a)
      · rw [if_neg y]
        constructor
        · rintro (a | a | ⟨Q, h1, h2, h3⟩)
          · exact Or.inl a
          · exact Or.inr a
          · exact absurd ⟨hpq, h2⟩ y
        · rintro (a | a)
          · exact Or.inl a
          · exact Or.inr (Or.inl a)
theorem q_closeG {S : TS} {rd dp : Int32} {hp rl pf rb rf re pl pe cf cl ce rlt : Nat → Int32} (h : RTx S rd dp hp rl pf rb rf re pl pe cf cl ce rlt) (hq : S.q ≤ 24) (hd0 : 0 < S.d) {post : (Nat → Int32) → (Nat → Int32) → (Nat → Int32) → (Nat → Int32) → (Nat → Int32) → (Nat → Int32) → (Nat → Int32) → (Nat → Int32) → (Nat → Int32) → (Nat → Int32) → (Nat → Int32) → Prop}
    (hpost : ∀ hp' rl' pf' rb' rf' re' pl' pe' cf' cl' ce', RTx (closeT S) rd (dp - 1) hp' rl' pf' rb' rf' re' pl' pe' cf' cl' ce' rlt → post hp' rl' pf' rb' rf' re' pl' pe' cf' cl' ce') :
    p_M_endRow rd dp hp rl pf rb rf re pl pe cf cl ce (fun u1 u2 u3 u4 u5 u6 u7 u8 => vp_in (dp - 1 + 1) 6 ∧ (vp_in (dp - 1 + 1) 6 ∧ (vp_in (dp - 1 + 1) 6 ∧ (p_M_part rd (dp - 1) u1 u2 pf u3 u4 u5 pl pe (u6 (dp - 1 + 1).toNatClampNeg) (u7 (dp - 1 + 1).toNatClampNeg) (u8 (dp - 1 + 1).toNatClampNeg) (fun v1 v2 v3 v4 v5 v6 v7 v8 => post v1 v2 v3 v4 v5 v6 v7 v8 u6 u7 u8))))) := by
  have hd := h.d4
  obtain ⟨jd, jq, jl, jc⟩ := join_d S
  have e1 : dp - 1 + 1 = nI S.d := by rw [h.dp, show S.d = S.d - 1 + 1 by omega, nI_pred, nI_1]
  have e2 : dp - 1 = nI (S.d - 1) := by rw [h.dp, show S.d = S.d - 1 + 1 by omega, nI_pred]; simp
  have hv : vp_in (nI S.d) 6 := vp_in_nI (by omega) (by omega)
  refine q_endRow h hq (fun hp' rl' rb' rf' re' cf' cl' ce' hR hC => ?_)
  rw [e1, nI_clamp (n := S.d) (by omega)]
  have hcd := hC S.d (Nat.le_refl _)
  have c1 : cf' S.d = ((endT S).ch S.d).1 := congrArg (fun z => z.1) hcd
  have c2 : cl' S.d = ((endT S).ch S.d).2.1 := congrArg (fun z => z.2.1) hcd
  have c3 : ce' S.d = ((endT S).ch S.d).2.2 := congrArg (fun z => z.2.2) hcd
  rw [c1, c2, c3]
  have hbb := endBB h.bb
  have hed : (endT S).d = S.d := jd
  have hrow : ∀ e, e < S.d → rowE (endT S) e = rowE (joinT S) e := fun e he => by
    show (match (joinT S).pt e with | none => upF (joinT S).sq S.d (0, 0, 1) e | some P => thenP (upF (joinT S).sq S.d (0, 0, 1) e) P) = _
    rw [upF_n (by omega)]; rfl
  have hD := RTx.down (U := endT S) (dp := dp) (dp' := dp - 1) (hp := hp') (rl := rl') (pf := pf) (rb := rb') (rf := rf') (re := re') (pl := pl) (pe := pe) (cf := cf') (cl := cl') (ce := ce') (rlt := rlt) (m := S.d - 1) (by rw [hed]; omega) (by rw [hed]; exact hd) e2 hR.rd (fun e he => hC e (by omega)) (fun e he => by
      rw [hed] at he
      rw [hrow e he]
      exact hR.rw e (by rw [jd]; exact he)) hR.lt (fun p x hpq hx => by
      rw [hR.rb p x hpq hx]
      have : Pend (endT S) p x ↔ Pend (joinT S) p x := by
        unfold Pend
        constructor
        · rintro ⟨e, Q, he, h1, h2, h3⟩
          have he' : e < (joinT S).d := he
          have h2 : tb (upF (joinT S).sq S.d (0, 0, 1) e).2.1 p = true := h2
          rw [upF_n (by rw [jd] at he'; omega)] at h2
          exact ⟨e, Q, he, h1, h2, h3⟩
        · rintro ⟨e, Q, he, h1, h2, h3⟩
          refine ⟨e, Q, he, h1, ?_, h3⟩
          show tb (upF (joinT S).sq S.d (0, 0, 1) e).2.1 p = true
          rw [upF_n (by rw [jd] at he; omega)]; exact h2
      rw [this]; exact Iff.rfl) hbb
  refine ⟨hv, hv, hv, ?_⟩
  have jq2 : (joinT (TS.mk (S.d - 1) (endT S).q (endT S).lt (endT S).fo (endT S).ch (endT S).sq (endT S).pt)).q = S.q := by
    rw [join_q]; exact jq
  refine q_part (P := (endT S).ch S.d) hD (by rw [jq2]; exact hq) (fun p hp2 => hbb.ch S.d (by rw [hed]; exact Nat.le_refl _) p (by rw [jq2] at hp2; show (joinT S).q ≤ p; rw [jq]; exact hp2)) (hbb.chb S.d (by rw [hed]; exact Nat.le_refl _)) (fun v1 v2 v3 v4 v5 v6 v7 v8 hR2 => hpost _ _ _ _ _ _ _ _ _ _ _ ?_)
  -- settled twice is settled once
  have hjj : ∀ U : TS, joinT (joinT U) = joinT U := fun U => join_none (by rw [(join_d U).1]; exact join_pt U)
  have hdd : (joinT (TS.mk (S.d - 1) (endT S).q (endT S).lt (endT S).fo (endT S).ch (endT S).sq (endT S).pt)).d = S.d - 1 := (join_d _).1
  have : addT (joinT (TS.mk (S.d - 1) (endT S).q (endT S).lt (endT S).fo (endT S).ch (endT S).sq (endT S).pt)) ((endT S).ch S.d) = closeT S := by
    unfold closeT addT
    rw [hjj, hdd]
    try rfl
  rw [this] at hR2
  exact hR2
theorem q_repG {S : TS} {rd dp : Int32} {hp rl pf rb rf re pl pe cf cl ce rlt : Nat → Int32} (h : RTx S rd dp hp rl pf rb rf re pl pe cf cl ce rlt) (hq : S.q ≤ 24) {P : Pc} (hP : S.pt S.d = some P) {b : Nat} (hb : b < 256) {at_ wr : Int32} {post : _}
    (hpost : ∀ rb' pe', RTx (repT S P (decide (b = 43)) (decide (b = 63))) rd dp hp rl pf rb' rf re pl pe' cf cl ce rlt → post (at_ + 1) rd dp wr hp rl pf rb' rf re pl pe' cf cl ce rlt) : p_M_readOne_146 post (nI b) at_ rd dp wr hp rl pf rb rf re pl pe cf cl ce rlt := by
  have hd := h.d4
  have hv : vp_in dp 6 := by rw [h.dp]; exact vp_in_nI (by omega) (by omega)
  have hdc : dp.toNatClampNeg = S.d := by rw [h.dp, nI_clamp (by omega)]
  obtain ⟨hh, hPe⟩ := h.h1 P hP
  have p1 : pf S.d = P.1 := congrArg (fun z => z.1) hPe
  have p2 : pl S.d = P.2.1 := congrArg (fun z => z.2.1) hPe
  have p3 : pe S.d = P.2.2 := congrArg (fun z => z.2.2) hPe
  have c43 := nIc (k := 43) hb (by omega)
  have c63 := nIc (k := 63) hb (by omega)
  unfold p_M_readOne_146
  rw [hdc, nar1]
  have hbb := h.bb
  have key : ∀ rb' pe', (∀ p, p < S.q → rb' p = (if decide (b = 63) then rb else linkF S.q P.2.1 P.1 rb) p) → ((b = 43 → pe' = pe) ∧ (¬ b = 43 → pe' = upd pe S.d 1)) → RTx (repT S P (decide (b = 43)) (decide (b = 63))) rd dp hp rl pf rb' rf re pl pe' cf cl ce rlt := fun rb' pe' hrb hpe => by
    have hrow : ∀ e, e ≠ S.d → rowE (repT S P (decide (b = 43)) (decide (b = 63))) e = rowE S e := fun e he => by
      have hpe2 : (repT S P (decide (b = 43)) (decide (b = 63))).pt e = S.pt e := by
        show (if decide (b = 43) then S.pt else upF S.pt S.d (some (P.1, P.2.1, 1))) e = _
        split
        · rfl
        · rw [upF_n he]
      cases e3 : S.pt e with
      | none => (rw [rowE_none (hpe2.trans e3), rowE_none e3]; try rfl)
      | some Q => (rw [rowE_some (hpe2.trans e3), rowE_some e3]; try rfl)
    have hpt : ∀ e, e ≠ S.d → (repT S P (decide (b = 43)) (decide (b = 63))).pt e = S.pt e := fun e he => by
      show (if decide (b = 43) then S.pt else upF S.pt S.d (some (P.1, P.2.1, 1))) e = _
      split
      · rfl
      · rw [upF_n he]
    have hptd : (repT S P (decide (b = 43)) (decide (b = 63))).pt S.d = some (if b = 43 then P else (P.1, P.2.1, 1)) := by
      show (if decide (b = 43) then S.pt else upF S.pt S.d (some (P.1, P.2.1, 1))) S.d = _
      by_cases y : b = 43
      · rw [decide_eq_true y, if_pos rfl, if_pos y]; exact hP
      · rw [decide_eq_false y, if_neg (by decide), if_neg y, upF_s]
    have hpb := hbb.pt S.d P (Nat.le_refl _) hP
    refine ⟨h.d4, h.dp, h.rd, h.ch, fun e he => ?_, h.rd0, fun z => ?_, fun Q hQ => ?_, h.lt, fun p x hpq hx => ?_, ⟨hbb.sq, hbb.ch, fun e Q he hQ p hp2 => ?_, hbb.chb, fun e Q he hQ => ?_⟩⟩
    · have he : e < S.d := he
      rw [hrow e (by omega)]; exact h.rw e he
    · have z : (repT S P (decide (b = 43)) (decide (b = 63))).pt S.d = none := z
      rw [hptd] at z; cases z
    · have hQ : (repT S P (decide (b = 43)) (decide (b = 63))).pt S.d = some Q := hQ
      rw [hptd] at hQ
      have hQ := Option.some.inj hQ
      refine ⟨hh, ?_⟩
      show (pf S.d, pl S.d, pe' S.d) = Q
      rw [← hQ]
      by_cases y : b = 43
      · rw [if_pos y, hpe.1 y]; exact hPe
      · rw [if_neg y, hpe.2 y, pk_us, p1, p2]
    · have hpq' : p < S.q := hpq
      have hpend : Pend (repT S P (decide (b = 43)) (decide (b = 63))) p x ↔ Pend S p x := by
        unfold Pend
        constructor
        · rintro ⟨e, Q, he, h1, h2, h3⟩
          have he' : e < S.d := he
          rw [hpt e (by omega)] at h1
          exact ⟨e, Q, he, h1, h2, h3⟩
        · rintro ⟨e, Q, he, h1, h2, h3⟩
          exact ⟨e, Q, he, by rw [hpt e (by omega)]; exact h1, h2, h3⟩
      rw [hpend, hrb p hpq']
      show tb ((if decide (b = 63) then rb else linkF S.q P.2.1 P.1 rb) p) x = true ↔ tb ((if decide (b = 63) then S.fo else linkF S.q P.2.1 P.1 S.fo) p) x = true ∨ _
      by_cases y : b = 63
      · rw [decide_eq_true y, if_pos rfl, if_pos rfl]; exact h.rb p x hpq' hx
      · rw [decide_eq_false y, if_neg (by decide), if_neg (by decide)]
        unfold linkF
        by_cases w : p < S.q ∧ tb P.2.1 p = true
        · rw [if_pos w, if_pos w, tb_or, tb_or, Bool.or_eq_true, Bool.or_eq_true, h.rb p x hpq' hx]
          constructor
          · rintro ((a | a) | a)
            · exact Or.inl (Or.inl a)
            · exact Or.inr a
            · exact Or.inl (Or.inr a)
          · rintro ((a | a) | a)
            · exact Or.inl (Or.inl a)
            · exact Or.inr a
            · exact Or.inl (Or.inr a)
        · rw [if_neg w, if_neg w]; exact h.rb p x hpq' hx
    · have he : e ≤ S.d := he
      by_cases y : e = S.d
      · subst y
        rw [hptd] at hQ
        have hQ := Option.some.inj hQ
        rw [← hQ]
        split
        · exact hpb p hp2
        · exact hpb p hp2
      · rw [hpt e y] at hQ; exact hbb.pt e Q he hQ p hp2
    · have he : e ≤ S.d := he
      by_cases y : e = S.d
      · subst y
        rw [hptd] at hQ
        have hQ := Option.some.inj hQ
        rw [← hQ]
        split
        · exact hbb.ptb _ P (Nat.le_refl _) hP
        · exact Or.inr rfl
      · rw [hpt e y] at hQ; exact hbb.ptb e Q he hQ
  refine ⟨fun z63 => ⟨fun z43 => ?_, fun z43 => ⟨hv, ?_⟩⟩, fun z63 => ⟨hv, hv, ?_⟩⟩
  · exact hpost _ _ (key rb pe (fun p _ => by rw [decide_eq_true (c63.mp z63), if_pos rfl]) ⟨fun _ => rfl, fun q => absurd (c43.mp z43) q⟩)
  · exact hpost _ _ (key rb (upd pe S.d 1) (fun p _ => by rw [decide_eq_true (c63.mp z63), if_pos rfl]) ⟨fun q => absurd (c43.mpr q) z43, fun _ => rfl⟩)
  · rw [h.rd]
    rw [h.rd] at hpost
    refine q_join hq (fun g hg => ⟨fun z43 => ?_, fun z43 => ⟨hv, ?_⟩⟩)
    · have := key g pe (fun p hpq => by rw [decide_eq_false (fun q => z63 (c63.mpr q)), hg p hpq, p1, p2]; rfl) ⟨fun _ => rfl, fun q => absurd (c43.mp z43) q⟩
      rw [h.rd] at this
      exact hpost _ _ this
    · have := key g (upd pe S.d 1) (fun p hpq => by rw [decide_eq_false (fun q => z63 (c63.mpr q)), hg p hpq, p1, p2]; rfl) ⟨fun q => absurd (c43.mpr q) z43, fun _ => rfl⟩
      rw [h.rd] at this
      exact hpost _ _ this