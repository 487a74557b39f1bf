/-! The reference's stream: cutAll, feed -/
theorem q_M_cut16 {D : Nat → Md} {G : Nat → Nat → Nat} {n : Nat → Nat} {s : Nat → Nat → Nat} {R : Nat} {many lts be mo fs ls : Nat → Int32} (T : RT D G n s R many lts be mo fs ls) {ac : Nat → Nat} (hac : ∀ r, ac r ≤ 4) {acf : Nat → Int32} (hacf : ∀ r, r < 16 → acf r = nI (ac r)) {en : Int32} {S : SS} {no se st : Nat → Int32} (hS : RS (D S.M) S.M no se st) {o : Nat} {le t1 t2 t3 t4 ke : Nat → Int32} {ma gr sa fr gs : Nat → Int32} {post K2 : _} {l : Nat} (hI : RSt (fun M => (D M).au) S l (nI S.M) (nI S.k) (nI S.p) (nI l) (nI S.t) le t1 t2 t3 t4 ke o) (h48 : l = S.p → S.p ≠ 48)
    (h0 : NoDue (D S.M).au (¬ en = 0) S.p S.lt → K2 0 (nI S.M) (nI S.k) (nI S.p) (nI S.p) (nI S.t) ma no se st gr sa fr gs le t1 t2 t3 t4 ke)
    (h1 : ∀ L, Due (D S.M).au (¬ en = 0) S.p S.lt L → ∀ mo' kc' pc' tc' le' t1' t2' t3' t4' ke', RSt (fun M => (D M).au) (cutF (fun M => (D M).au) ac S L) 0 mo' kc' pc' 0 tc' le' t1' t2' t3' t4' ke' o → K2 1 mo' kc' pc' 0 tc' ma no se st gr sa fr gs le' t1' t2' t3' t4' ke') :
    ∃ k, p_M_cutAll_16 (nI R) en S.ca (nI o) mo ls acf post K2 k 0 (nI S.M) (nI S.k) (nI S.p) (nI l) (nI S.t) ma no se st gr sa fr gs le t1 t2 t3 t4 ke := by
  have hSo := hI.ok
  have hM := hSo.M
  have hD := T.dok _ hM
  have hp48 := hSo.p
  have hI0 : RSt (fun M => (D M).au) S 0 (nI S.M) (nI S.k) (nI S.p) 0 (nI S.t) le t1 t2 t3 t4 ke o := ⟨hSo, rfl, rfl, rfl, rfl, Nat.zero_le _, fun l' a b => by omega, hI.le, rfl, hI.tk, hI.ke⟩
  -- a cut
  have h90 : ∀ L, Due (D S.M).au (¬ en = 0) S.p S.lt L → p_M_cutAll_90 (nI R) S.ca (nI o) mo ls acf post K2 1 (nI S.M) (nI S.k) (nI S.p) (nI L) (nI S.t) ma no se st gr sa fr gs le t1 t2 t3 t4 ke := fun L hL =>
    ⟨fun z => absurd z (by decide), fun _ => q_M_cut T hac hacf hS hL hI0 (fun mo' kc' pc' tc' le' t1' t2' t3' t4' ke' hR => h1 L hL _ _ _ _ _ _ _ _ _ _ hR)⟩
  have h70 : ∀ L, Due (D S.M).au (¬ en = 0) S.p S.lt L → p_M_cutAll_70 (nI R) en S.ca (nI o) mo ls acf post K2 1 (nI S.M) (nI S.k) (nI S.p) (nI L) (nI S.t) ma no se st gr sa fr gs le t1 t2 t3 t4 ke := fun L hL =>
    ⟨fun _ => h90 L hL, fun z => absurd z (by decide)⟩
  have key : ∀ (d l : Nat), l + d = S.p → (∀ l', 1 ≤ l' → l' ≤ l → ¬ over (D S.M).au S.lt l') → (l = S.p → S.p ≠ 48) → ∃ k, p_M_cutAll_16 (nI R) en S.ca (nI o) mo ls acf post K2 k 0 (nI S.M) (nI S.k) (nI S.p) (nI l) (nI S.t) ma no se st gr sa fr gs le t1 t2 t3 t4 ke := by
    intro d
    induction d with
    | zero =>
      intro l hl hno h48
      have e : l = S.p := by omega
      subst e
      refine ⟨1, fun _ => ⟨fun z => absurd rfl z, fun _ => ⟨fun z => ?_, fun z => ⟨fun y => ?_, fun y => ?_⟩⟩⟩, fun z => absurd (nI_le (Nat.le_refl _) (by omega)) z⟩
      · exact ⟨fun _ => h0 ⟨hno, h48 rfl, fun q => q.1 z⟩, fun q => absurd rfl q⟩
      · have : S.p = 0 := by
          rcases Nat.eq_zero_or_pos S.p with q | q
          · exact q
          · exact absurd y (nI_nle q (by omega))
        exact ⟨fun _ => h0 ⟨hno, h48 rfl, fun q => by omega⟩, fun q => absurd rfl q⟩
      · have : 0 < S.p := by
          rcases Nat.eq_zero_or_pos S.p with q | q
          · rw [q] at y; exact absurd (by decide) y
          · exact q
        exact h90 S.p ⟨by omega, Nat.le_refl _, fun l' a b => hno l' a (by omega), Or.inr ⟨rfl, Or.inr z⟩⟩
    | succ d ih =>
      intro l hl hno h48
      by_cases hov : over (D S.M).au S.lt (l + 1)
      · have hDu : Due (D S.M).au (¬ en = 0) S.p S.lt (l + 1) := ⟨by omega, by omega, fun l' a b => hno l' a (by omega), Or.inl hov⟩
        refine ⟨2, fun z => absurd z (nI_ge (by omega) (by omega)), fun _ => ⟨fun z => absurd rfl z, fun _ => ?_⟩⟩
        rw [nI_1]
        refine q_M_isOver hD (T.rd _ hM) hS hp48 hSo.lt hI.le (l := l + 1) (by omega) (fun _ => ⟨fun _ => ?_, fun z => absurd z (by decide)⟩) (fun z => absurd hov z)
        exact ⟨fun _ => h70 _ hDu, fun _ => ⟨fun _ => h70 _ hDu, fun z => absurd z (by decide)⟩⟩
      · by_cases e48 : l + 1 = 48
        · have hDu : Due (D S.M).au (¬ en = 0) S.p S.lt (l + 1) := ⟨by omega, by omega, fun l' a b => hno l' a (by omega), Or.inr ⟨by omega, Or.inl (by omega)⟩⟩
          refine ⟨2, fun z => absurd z (nI_ge (by omega) (by omega)), fun _ => ⟨fun z => absurd rfl z, fun _ => ?_⟩⟩
          rw [nI_1]
          refine q_M_isOver hD (T.rd _ hM) hS hp48 hSo.lt hI.le (l := l + 1) (by omega) (fun z => absurd z hov) (fun _ => ⟨fun z => absurd rfl z, fun _ => ⟨fun z => absurd (by rw [e48]; rfl) z, fun _ => ?_⟩⟩)
          exact ⟨fun _ => h70 _ hDu, fun _ => ⟨fun _ => h70 _ hDu, fun z => absurd z (by decide)⟩⟩
        · obtain ⟨k, hk⟩ := ih (l + 1) (by omega) (fun l' a b => by
            by_cases q : l' = l + 1
            · rw [q]; exact hov
            · exact hno l' a (by omega)) (fun q => by omega)
          refine ⟨k + 1, fun z => absurd z (nI_ge (by omega) (by omega)), fun _ => ⟨fun z => absurd rfl z, fun _ => ?_⟩⟩
          rw [nI_1]
          refine q_M_isOver hD (T.rd _ hM) hS hp48 hSo.lt hI.le (l := l + 1) (by omega) (fun z => absurd z hov) (fun _ => ⟨fun z => absurd rfl z, fun _ => ⟨fun _ => hk, fun z => absurd ((nI_eq (b := 48) (by omega) (by omega)).mp z) e48⟩⟩)
  have hlp := hI.lp
  exact key (S.p - l) l (by omega) hI.no h48
theorem q_M_cutAll {D : Nat → Md} {G : Nat → Nat → Nat} {n : Nat → Nat} {s : Nat → Nat → Nat} {R : Nat} {many lts be mo fs ls : Nat → Int32} (T : RT D G n s R many lts be mo fs ls) {ac : Nat → Nat} (hac : ∀ r, ac r ≤ 4) {acf : Nat → Int32} (hacf : ∀ r, r < 16 → acf r = nI (ac r)) {en : Int32} {S : SS} {ma no se st gr sa fr gs : Nat → Int32} (K : RK D G n s ma no se st gr sa gs) {o l : Nat} {mo' kc pc lo tc : Int32} {le t1 t2 t3 t4 ke : Nat → Int32} (hI : RSt (fun M => (D M).au) S l mo' kc pc lo tc le t1 t2 t3 t4 ke o) (h48 : l = S.p → S.p ≠ 48) {post : _}
    (hp : ∀ mo' kc' pc' lo' tc' ma' no' se' st' gr' sa' fr' gs' le' t1' t2' t3' t4' ke', RK D G n s ma' no' se' st' gr' sa' gs' → RSt (fun M => (D M).au) (cutsF (fun M => (D M).au) ac (¬ en = 0) 48 S) (cutsF (fun M => (D M).au) ac (¬ en = 0) 48 S).p mo' kc' pc' lo' tc' le' t1' t2' t3' t4' ke' o → post mo' kc' pc' lo' tc' ma' no' se' st' gr' sa' fr' gs' le' t1' t2' t3' t4' ke') :
    p_M_cutAll (nI R) en mo' kc S.ca pc lo tc (nI o) ma no mo fs many se be lts st ls gr sa fr gs le t1 t2 t3 t4 acf ke post := by
  have key : ∀ (d : Nat) (S' : SS) (l : Nat) (mo' kc pc lo tc : Int32) (ma no se st gr sa fr gs le t1 t2 t3 t4 ke : Nat → Int32), S'.p ≤ d → S'.ca = S.ca → cutsF (fun M => (D M).au) ac (¬ en = 0) 48 S = cutsF (fun M => (D M).au) ac (¬ en = 0) d S' → RK D G n s ma no se st gr sa gs → RSt (fun M => (D M).au) S' l mo' kc pc lo tc le t1 t2 t3 t4 ke o → (l = S'.p → S'.p ≠ 48) → p_M_cutAll_2 (nI R) en S.ca (nI o) mo fs many be lts ls acf post (d + 2) 1 mo' kc pc lo tc ma no se st gr sa fr gs le t1 t2 t3 t4 ke := by
    intro d
    induction d with
    | zero => ?_
    | succ d ih => ?_
    all_goals
      intro S' l mo' kc pc lo tc ma no se st gr sa fr gs le t1 t2 t3 t4 ke hpd hca hcut K hI h48
      have emo := hI.mo
      have ekc := hI.kc
      have epc := hI.pc
      have elo := hI.lo
      have etc := hI.tc
      subst emo ekc epc elo etc
      refine ⟨fun z => absurd z (by decide), fun _ => q_M_makeA T K hI.ok.M (fun ma' no' se' st' gr' sa' fr' gs' K' hR _ _ => ?_)⟩
      rw [← hca]
    · refine q_M_cut16 T hac hacf hR.rs hI h48 (fun hno => ⟨fun _ => ?_, fun z => absurd rfl z⟩) (fun L hL => absurd hL.2.1 (by have := hL.1; omega))
      rw [hcut, cutsF_no hno] at hp
      exact hp _ _ _ _ _ _ _ _ _ _ _ _ _ _ _ _ _ _ _ K' ⟨hI.ok, rfl, rfl, rfl, rfl, Nat.le_refl _, hno.1, hI.le, rfl, hI.tk, hI.ke⟩
    · refine q_M_cut16 T hac hacf hR.rs hI h48 (fun hno => ⟨fun _ => ?_, fun z => absurd rfl z⟩) (fun L hL mo2 kc2 pc2 tc2 le2 t12 t22 t32 t42 ke2 hI2 => ?_)
      · rw [hcut, cutsF_no hno] at hp
        exact hp _ _ _ _ _ _ _ _ _ _ _ _ _ _ _ _ _ _ _ K' ⟨hI.ok, rfl, rfl, rfl, rfl, Nat.le_refl _, hno.1, hI.le, rfl, hI.tk, hI.ke⟩
      · have hpl := (cutF_ok (Am := fun M => (D M).au) (ac := ac) hac hI.ok hL).2
        rw [hca]
        exact ih (cutF (fun M => (D M).au) ac S' L) 0 mo2 kc2 pc2 0 tc2 ma' no' se' st' gr' sa' fr' gs' le2 t12 t22 t32 t42 ke2 (by omega) hca (by rw [hcut, cutsF_due (Am := fun M => (D M).au) hL]) K' hI2 (fun q => by have := hI.ok.p; omega)
  exact ⟨50, key 48 S l mo' kc pc lo tc ma no se st gr sa fr gs le t1 t2 t3 t4 ke hI.ok.p rfl rfl K hI h48⟩
theorem q_M_feed34 {D : Nat → Md} {G : Nat → Nat → Nat} {n : Nat → Nat} {s : Nat → Nat → Nat} {R : Nat} {many lts be mo fs ls : Nat → Int32} (T : RT D G n s R many lts be mo fs ls) {ac : Nat → Nat} (hac : ∀ r, ac r ≤ 4) {acf : Nat → Int32} (hacf : ∀ r, r < 16 → acf r = nI (ac r)) {x : Int32} {m : Nat} (hm : m ≤ 10) {S : SS} (hp48 : S.p < 48) {ma no se st gr sa fr gs : Nat → Int32} (K : RK D G n s ma no se st gr sa gs) {o : Nat} {mo' kc ca pc lo tc co : Int32} {le t1 t2 t3 t4 ke : Nat → Int32} (hca : ca = S.ca) (hI : RSt (fun M => (D M).au) S S.p mo' kc pc lo tc le t1 t2 t3 t4 ke o) {post : _}
    (hp : ∀ S' k mo' kc' pc' lo' tc' le' ma' no' se' st' gr' sa' fr' gs' t1' t2' t3' t4' ke', feedF (fun M => (D M).au) ac (wdF x) m m 0 S = (k, S') → S'.p < 48 → RK D G n s ma' no' se' st' gr' sa' gs' → RSt (fun M => (D M).au) S' S'.p mo' kc' pc' lo' tc' le' t1' t2' t3' t4' ke' o → post (nI k) co mo' kc' S'.ca pc' lo' tc' le' ma' no' se' st' gr' sa' fr' gs' t1' t2' t3' t4' ke') :
    ∃ k, p_M_feed_34 (nI R) 0 (nI o) mo fs many be lts ls acf x (nI m) post k 0 co mo' kc ca pc lo tc le ma no se st gr sa fr gs t1 t2 t3 t4 ke := by
  have key : ∀ (d k : Nat) (S' : SS) (mo' kc pc lo tc : Int32) (ma no se st gr sa fr gs le t1 t2 t3 t4 ke : Nat → Int32), k + d = m → S'.p < 48 → feedF (fun M => (D M).au) ac (wdF x) m m 0 S = feedF (fun M => (D M).au) ac (wdF x) m d k S' → RK D G n s ma no se st gr sa gs → RSt (fun M => (D M).au) S' S'.p mo' kc pc lo tc le t1 t2 t3 t4 ke o →
      p_M_feed_34 (nI R) 0 (nI o) mo fs many be lts ls acf x (nI m) post (d + 1) (nI k) co mo' kc S'.ca pc lo tc le ma no se st gr sa fr gs t1 t2 t3 t4 ke := by
    intro d
    induction d with
    | zero =>
      intro k S' mo' kc pc lo tc ma no se st gr sa fr gs le t1 t2 t3 t4 ke hk h48 hf K hI
      have e : k = m := by omega
      subst e
      exact ⟨fun _ => hp S' k _ _ _ _ _ _ _ _ _ _ _ _ _ _ _ _ _ _ _ hf h48 K hI, fun z => absurd (nI_le (Nat.le_refl _) (by omega)) z⟩
    | succ d ih =>
      intro k S' mo' kc pc lo tc ma no se st gr sa fr gs le t1 t2 t3 t4 ke hk h48 hf K hI
      have etc := hI.tc
      have epc := hI.pc
      have htp := hI.ok.tp
      subst etc epc
      refine ⟨fun z => absurd z (nI_ge (by omega) (by omega)), fun _ => ?_⟩
      by_cases ht : 24 ≤ S'.t
      · refine ⟨fun z => absurd z (nI_nlt (b := 24) ht (by omega)), fun _ => hp S' k _ _ _ _ _ _ _ _ _ _ _ _ _ _ _ _ _ _ _ ?_ h48 K hI⟩
        rw [hf]; unfold feedF; rw [if_pos (Or.inr ht)]
      · refine ⟨fun _ => ⟨vp_in_nI (by omega) (by omega), ?_⟩, fun z => absurd (nI_lt (b := 24) (by omega) (by omega)) z⟩
        rw [wd_s x (by omega), nI_clamp (n := S'.p) (by omega), nI_1, nI_1]
        have hok := pushF_ok hI.ok h48 (by omega) (c := wdF x k) wd_lt
        have hI2 : RSt (fun M => (D M).au) (pushF S' (wdF x k)) S'.p mo' kc (nI (S'.p + 1)) lo (nI S'.t) (upd le S'.p (nI (wdF x k))) t1 t2 t3 t4 ke o := by
          refine ⟨hok, hI.mo, hI.kc, rfl, hI.lo, by show S'.p ≤ S'.p + 1; omega, fun l' a b => ?_, fun j hj => ?_, rfl, hI.tk, hI.ke⟩
          · show ¬ over (D S'.M).au (pushF S' (wdF x k)).lt l'
            unfold over
            rw [pushF_ru b]
            exact hI.no l' a b
          · have hj : j < S'.p + 1 := hj
            show upd le S'.p (nI (wdF x k)) j = nI (updN S'.lt S'.p (wdF x k) j)
            by_cases e : j = S'.p
            · subst e; rw [pk_us, updN_s]
            · rw [pk_un e, updN_n e]; exact hI.le j (by omega)
        have hcu := q_M_cutAll T hac hacf (en := 0) K hI2 (by intro q; have : S'.p = S'.p + 1 := q; omega) (fr := fr) (post := fun u1 u2 u3 u4 u5 u6 u7 u8 u9 u10 u11 u12 u13 u14 u15 u16 u17 u18 u19 => p_M_feed_34 (nI R) 0 (nI o) mo fs many be lts ls acf x (nI m) post (d + 1) (nI (k + 1)) co u1 u2 (S'.ca + 1) u3 u4 u5 u14 u6 u7 u8 u9 u10 u11 u12 u13 u15 u16 u17 u18 u19) (fun mo2 kc2 pc2 lo2 tc2 ma2 no2 se2 st2 gr2 sa2 fr2 gs2 le2 t12 t22 t32 t42 ke2 K2 hI3 => ?_)
        · exact hcu
        · have hen : (¬ (0 : Int32) = 0) = False := by simp
          rw [hen] at hI3
          have hend := cutsF_end (Am := fun M => (D M).au) hac (en := False) 48 (pushF S' (wdF x k)) hok hok.p
          have hca2 : (cutsF (fun M => (D M).au) ac False 48 (pushF S' (wdF x k))).ca = S'.ca + 1 := by
            have : ∀ m T, (cutsF (fun M => (D M).au) ac False m T).ca = T.ca := by
              intro m
              induction m with
              | zero => intro T; rfl
              | succ m ih2 =>
                intro T
                by_cases hx : ∃ L, Due ((D T.M).au) False T.p T.lt L
                · obtain ⟨L, hL⟩ := hx
                  rw [cutsF_due (Am := fun M => (D M).au) hL, ih2]; rfl
                · unfold cutsF; rw [dif_neg hx]
            rw [this]; rfl
          rw [← hca2]
          refine ih (k + 1) _ mo2 kc2 pc2 lo2 tc2 ma2 no2 se2 st2 gr2 sa2 fr2 gs2 le2 t12 t22 t32 t42 ke2 (by omega) ?_ ?_ K2 hI3
          · have h1 := hend.1.p
            have h2 := hend.2.2.1
            omega
          · rw [hf]
            conv => lhs; unfold feedF
            rw [if_neg (by omega)]
  rw [hca]
  exact ⟨m + 1, key m 0 S mo' kc pc lo tc ma no se st gr sa fr gs le t1 t2 t3 t4 ke (by omega) hp48 rfl K hI⟩