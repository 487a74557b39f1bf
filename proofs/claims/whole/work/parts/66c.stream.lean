/-! The program's stream: cutAllDue, accept -/
theorem q_cutAllDue {Am : Nat → Auto} {Gm : Nat → Nat → Nat} {nn : Nat → Nat} {sm : Nat → Nat → Nat} {fa fw : Nat → Nat → Int32} (hAm : ∀ M, M < 3 → (Am M).Ok) (hMi : ∀ M, M < 3 → Mini (Am M) (Gm M) (nn M) (sm M)) (hMa : ∀ M, M < 3 → Mach (Am M) (Gm M) (nn M) (sm M) (fa M) (fw M)) {ac : Nat → Nat} (hac : ∀ r, ac r ≤ 4) {acf : Nat → Int32} (hacf : ∀ r, r < 16 → acf r = nI (ac r)) {en : Int32} {S : SS} {l : Nat} {mo kc pc lo stt mt mr : Int32} {pe : Nat → Int32} {sz : Int32} {fc ke : Nat → Int32} {o : Nat} (h : CSt Am Gm S l mo kc pc lo stt mt mr pe sz fc ke o) {post : Int32 → Int32 → Int32 → Int32 → Int32 → Int32 → Int32 → (Nat → Int32) → Int32 → (Nat → Int32) → (Nat → Int32) → Prop}
    (hp : ∀ mo' kc' pc' lo' stt' mt' mr' pe' sz' fc' ke', CSt Am Gm (cutsF Am ac (¬ en = 0) 48 S) (cutsF Am ac (¬ en = 0) 48 S).p mo' kc' pc' lo' stt' mt' mr' pe' sz' fc' ke' o → post mo' kc' pc' lo' stt' mt' mr' pe' sz' fc' ke') :
    p_Stream_cutAllDue en mo kc S.ca pc lo stt mt mr pe (nn 0) (fw 0) (6 * nn 0) (fa 0) (nI o) sz fc acf ke (nn 1) (fw 1) (6 * nn 1) (fa 1) (nn 2) (fw 2) (6 * nn 2) (fa 2) post := by
  have hG0 : ∀ M, M < 3 → Gm M 0 = 0 := fun M hM => (hMi M hM).can.zero (hAm M hM).pos
  have key : ∀ (d q : Nat) (S' : SS) (l : Nat) (mo kc pc lo stt mt mr : Int32) (pe : Nat → Int32) (sz : Int32) (fc ke : Nat → Int32), q + d = 48 → S'.p ≤ d → S'.ca = S.ca → cutsF Am ac (¬ en = 0) 48 S = cutsF Am ac (¬ en = 0) d S' → CSt Am Gm S' l mo kc pc lo stt mt mr pe sz fc ke o →
      p_Stream_cutAllDue_2 en S.ca (nn 0) (fw 0) (6 * nn 0) (fa 0) (nI o) acf (nn 1) (fw 1) (6 * nn 1) (fa 1) (nn 2) (fw 2) (6 * nn 2) (fa 2) post (d + 1) (nI q) mo kc pc lo stt mt mr pe sz fc ke := by
    intro d
    induction d with
    | zero =>
      intro q S' l mo kc pc lo stt mt mr pe sz fc ke hq hp0 hca hcut hI
      rw [hcut] at hp
      have e : l = S'.p := by have := hI.lp; omega
      refine ⟨fun _ => hp _ _ _ _ _ _ _ _ _ _ _ (e ▸ hI), fun z => absurd (nI_le (a := 48) (by omega) (by omega)) z⟩
    | succ d ih =>
      intro q S' l mo kc pc lo stt mt mr pe sz fc ke hq hp0 hca hcut hI
      have hM := hI.ok.M
      have emo := hI.mo
      have ekc := hI.kc
      have epc := hI.pc
      have elo := hI.lo
      have est := hI.stt
      have emt := hI.mt
      have emr := hI.mr
      have esz := hI.sz
      subst emo ekc epc elo est emt emr esz
      refine ⟨fun z => absurd z (nI_ge (b := 48) (by omega) (by omega)), fun _ => ?_⟩
      -- one turn, whatever the mode is
      have body : ∀ K : Int32 → Int32 → Int32 → Int32 → Int32 → Prop, (∀ r a b c e', (r = 0 → post (nI S'.M) (nI S'.k) (nI S'.p) a b c e' pe (nI S'.t) fc ke) ∧ (¬ r = 0 → p_Stream_cut (nI S'.M) (nI S'.k) S.ca (nI S'.p) c e' (nI o) (nI S'.t) fc pe acf ke (fun u6 u7 u8 u9 u10 u11 u12 u13 u14 u15 u16 => p_Stream_cutAllDue_2 en S.ca (nn 0) (fw 0) (6 * nn 0) (fa 0) (nI o) acf (nn 1) (fw 1) (6 * nn 1) (fa 1) (nn 2) (fw 2) (6 * nn 2) (fa 2) post (d + 1) (nI q + 1) u6 u7 u8 u9 u10 u11 u12 u15 u13 u14 u16)) → K r a b c e') → p_Stream_isCutDue en (nI S'.p) (nI l) (oc ((ru (Am S'.M) S'.lt l).map (Gm S'.M))) (nI (lw (Am S'.M) S'.lt l)) (lr (Am S'.M) S'.lt l) pe (nn S'.M) (fw S'.M) (6 * nn S'.M) (fa S'.M) K := by
        intro K hK
        refine q_isCutDue (hAm _ hM) (hMi _ hM) (hMa _ hM) hI.ok.p hI.ok.lt hI.pe (fun L hL => hK _ _ _ _ _ ⟨fun z => absurd z (by decide), fun _ => ?_⟩) (fun hno => hK _ _ _ _ _ ⟨fun _ => ?_, fun z => absurd rfl z⟩) hI.lp hI.no
        · rw [← hca, nI_1]
          refine q_cut hAm hG0 hac hacf hI.ok hL hI.pe hI.tk hI.ke (fun mo2 kc2 pc2 lo2 st2 mt2 mr2 sz2 fc2 pe2 ke2 hI2 => ?_)
          rw [hca]
          refine ih (q + 1) (cutF Am ac S' L) 0 mo2 kc2 pc2 lo2 st2 mt2 mr2 pe2 sz2 fc2 ke2 (by omega) ?_ ?_ ?_ hI2
          · have := (cutF_ok hac hI.ok hL).2; omega
          · exact hca
          · rw [hcut, cutsF_due hL]
        · rw [hcut, cutsF_no hno] at hp
          refine hp _ _ _ _ _ _ _ _ _ _ _ ⟨hI.ok, rfl, rfl, rfl, rfl, rfl, rfl, rfl, Nat.le_refl _, hno.1, hI.pe, rfl, hI.tk, hI.ke⟩
      have n01 : ¬ (0 : Int32) = 1 := by decide
      have hcase : S'.M = 0 ∨ S'.M = 1 ∨ S'.M = 2 := by omega
      rcases hcase with e | e | e <;> rw [e] at body ⊢
      · exact ⟨fun _ => body _ (fun _ _ _ _ _ z => z), fun z => absurd z (by decide), fun z => absurd z (by decide), fun z => absurd rfl z⟩
      · exact ⟨fun z => absurd z (by decide), fun _ => body _ (fun _ _ _ _ _ z => z), fun z => absurd z (by decide), fun _ z => absurd rfl z⟩
      · exact ⟨fun z => absurd z (by decide), fun z => absurd z (by decide), fun _ => body _ (fun _ _ _ _ _ z => z), fun _ _ z => absurd rfl z⟩
  exact ⟨49, key 48 0 S l mo kc pc lo stt mt mr pe sz fc ke (by omega) h.ok.p rfl rfl h⟩