/-! Letters of a word; the program's accept -/
/-- the k-th letter of a word -/
def wdF (x : Int32) (k : Nat) : Nat := x.toBitVec.toNat / 2 ^ (3 * k) % 8 % 6
theorem wd_lt {x : Int32} {k : Nat} : wdF x k < 6 := Nat.mod_lt _ (by omega)
theorem nI_rem6 {a : Nat} (h : a < 2 ^ 31) : nI a - nI a / 6 * 6 = nI (a % 6) := pk_rem (d := 6) h (by omega) (by omega)
theorem wd_u (x : Int32) {k : Nat} (hk : k < 10) : ((((x : Int32).toUInt32 >>> (((3 * nI k) : Int32).toUInt32 &&& Int32.toUInt32 31)).toInt32 &&& (7 : Int32)) - (((x : Int32).toUInt32 >>> (((3 * nI k) : Int32).toUInt32 &&& Int32.toUInt32 31)).toInt32 &&& (7 : Int32)) / 6 * 6) = nI (wdF x k) := by
  have hs : ∀ k, k < 10 → ((((3 : Int32) * nI k).toUInt32 &&& Int32.toUInt32 31).toBitVec % 32).toNat = 3 * k := by decide +kernel
  have e := pk_ushr x (3 * nI k) (3 * k) (hs k hk)
  rw [pk_and _ 3 (by decide), e, nI_rem6 (by have := Nat.mod_lt (x.toBitVec.toNat / 2 ^ (3 * k)) (show 0 < 2 ^ 3 by decide); omega)]
  rfl
theorem tb_shrj (x : Int32) {p j : Nat} (h : p + j < 32) : tb (x >>> (nI p &&& 31)) j = tb x (p + j) := by
  unfold tb
  rw [nI_m31 (by omega), Int32.toBitVec_shiftRight, BitVec.sshiftRight_eq', tb_sm (by omega), BitVec.getLsbD_sshiftRight]
  simp [h]
  omega
theorem wd_s (x : Int32) {k : Nat} (hk : k < 10) : (((x >>> ((3 * nI k) &&& 31)) &&& (7 : Int32)) - ((x >>> ((3 * nI k) &&& 31)) &&& (7 : Int32)) / 6 * 6) = nI (wdF x k) := by
  have e3 : (3 : Int32) * nI k = nI (3 * k) := by rw [show (3 : Int32) = nI 3 from rfl, pk_mul]
  rw [e3, pk_and _ 3 (by decide)]
  have hm : (x >>> (nI (3 * k) &&& 31)).toBitVec.toNat % 2 ^ 3 = x.toBitVec.toNat / 2 ^ (3 * k) % 8 := by
    apply Nat.eq_of_testBit_eq
    intro j
    rw [show (8 : Nat) = 2 ^ 3 by decide, Nat.testBit_mod_two_pow, Nat.testBit_mod_two_pow]
    by_cases hj : j < 3
    · simp only [hj, decide_true, Bool.true_and]
      rw [Nat.testBit_div_two_pow]
      have := tb_shrj x (p := 3 * k) (j := j) (by omega)
      unfold tb at this
      rw [Nat.add_comm] at this
      rw [Nat.add_comm]
      rw [Nat.add_comm] at this
      simpa [BitVec.getLsbD, Nat.add_comm] using this
    · simp [hj]
  rw [hm, nI_rem6 (by have := Nat.mod_lt (x.toBitVec.toNat / 2 ^ (3 * k)) (show 0 < 8 by decide); omega)]
  rfl
theorem pushF_ru {A : Auto} {S : SS} {c l : Nat} (hl : l ≤ S.p) : ru A (pushF S c).lt l = ru A S.lt l := ru_congr l (fun j hj => by
  show updN S.lt S.p c j = S.lt j
  rw [updN_n (by omega)])
theorem pushF_lw {A : Auto} {S : SS} {c : Nat} : ∀ l, l ≤ S.p → lw A (pushF S c).lt l = lw A S.lt l ∧ lr A (pushF S c).lt l = lr A S.lt l := by
  intro l
  induction l with
  | zero => intro _; exact ⟨rfl, rfl⟩
  | succ l ih =>
    intro hl
    obtain ⟨h1, h2⟩ := ih (by omega)
    have hw : wv A (pushF S c).lt (l + 1) = wv A S.lt (l + 1) := by unfold wv; rw [pushF_ru hl]
    unfold lw lr
    rw [hw, h1, h2]
    exact ⟨rfl, rfl⟩
theorem q_accept {Am : Nat → Auto} {Gm : Nat → Nat → Nat} {nn : Nat → Nat} {sm : Nat → Nat → Nat} {fa fw : Nat → Nat → Int32} (hAm : ∀ M, M < 3 → (Am M).Ok) (hMi : ∀ M, M < 3 → Mini (Am M) (Gm M) (nn M) (sm M)) (hMa : ∀ M, M < 3 → Mach (Am M) (Gm M) (nn M) (sm M) (fa M) (fw M)) {ac : Nat → Nat} (hac : ∀ r, ac r ≤ 4) {acf : Nat → Int32} (hacf : ∀ r, r < 16 → acf r = nI (ac r)) {x : Int32} {n : Nat} (hn : n ≤ 10) {S : SS} (hp48 : S.p < 48) {mo kc ca pc lo stt mt mr : Int32} {pe : Nat → Int32} {sz : Int32} {fc ke : Nat → Int32} {o : Nat} (hca : ca = S.ca) (h : CSt Am Gm S S.p mo kc pc lo stt mt mr pe sz fc ke o) {post : Int32 → Int32 → Int32 → Int32 → Int32 → Int32 → Int32 → Int32 → Int32 → Int32 → (Nat → Int32) → (Nat → Int32) → (Nat → Int32) → Prop}
    (hp : ∀ S' k mo' kc' pc' lo' stt' mt' mr' pe' sz' fc' ke', feedF Am ac (wdF x) n n 0 S = (k, S') → S'.p < 48 → CSt Am Gm S' S'.p mo' kc' pc' lo' stt' mt' mr' pe' sz' fc' ke' o → post (nI k) mo' kc' S'.ca pc' lo' stt' mt' mr' sz' pe' fc' ke') :
    p_Stream_accept 0 mo kc ca pc lo stt mt mr (nI o) sz pe (nn 0) (fw 0) (6 * nn 0) (fa 0) fc acf ke (nn 1) (fw 1) (6 * nn 1) (fa 1) (nn 2) (fw 2) (6 * nn 2) (fa 2) x (nI n) post := by
  have key : ∀ (d k : Nat) (S' : SS) (mo kc pc lo stt mt mr : Int32) (pe : Nat → Int32) (sz : Int32) (fc ke : Nat → Int32), k + d = n → S'.p < 48 → feedF Am ac (wdF x) n n 0 S = feedF Am ac (wdF x) n d k S' → CSt Am Gm S' S'.p mo kc pc lo stt mt mr pe sz fc ke o →
      p_Stream_accept_3 0 (nI o) (nn 0) (fw 0) (6 * nn 0) (fa 0) acf (nn 1) (fw 1) (6 * nn 1) (fa 1) (nn 2) (fw 2) (6 * nn 2) (fa 2) x (nI n) post (d + 1) (nI k) mo kc S'.ca pc lo stt mt mr sz pe fc ke := by
    intro d
    induction d with
    | zero =>
      intro k S' mo kc pc lo stt mt mr pe sz fc ke hk h48 hf hI
      exact ⟨fun _ => hp S' k _ _ _ _ _ _ _ _ _ _ _ hf h48 hI, fun z => absurd (nI_le (by omega) (by omega)) z⟩
    | succ d ih =>
      intro k S' mo kc pc lo stt mt mr pe sz fc ke hk h48 hf hI
      have esz := hI.sz
      have epc := hI.pc
      have htp := hI.ok.tp
      subst esz epc
      refine ⟨fun z => absurd z (nI_ge (by omega) (by omega)), fun _ => ?_⟩
      by_cases ht : 24 ≤ S'.t
      · refine ⟨fun _ => hp S' k _ _ _ _ _ _ _ _ _ _ _ ?_ h48 hI, fun z => absurd (nI_le (a := 24) ht (by omega)) z⟩
        rw [hf]; unfold feedF; rw [if_pos (Or.inr ht)]
      · refine ⟨fun z => absurd z (nI_ge (b := 24) (by omega) (by omega)), fun _ => ⟨fun z => absurd z (nI_ge (b := 48) (by omega) (by omega)), fun _ => ⟨vp_in_nI (by omega) (by omega), ?_⟩⟩⟩
        rw [wd_u x (by omega), nI_clamp (n := S'.p) (by omega), nI_1, nI_1]
        have hok := pushF_ok hI.ok h48 (by omega) (c := wdF x k) wd_lt
        obtain ⟨l1, l2⟩ := @pushF_lw (Am S'.M) S' (wdF x k) S'.p (Nat.le_refl _)
        have hI2 : CSt Am Gm (pushF S' (wdF x k)) S'.p mo kc (nI (S'.p + 1)) lo stt mt mr (upd pe S'.p (nI (wdF x k))) (nI S'.t) fc ke o := by
          refine ⟨hok, hI.mo, hI.kc, rfl, hI.lo, ?_, ?_, ?_, by show S'.p ≤ S'.p + 1; omega, fun l' a b => ?_, fun j hj => ?_, rfl, hI.tk, hI.ke⟩
          · show stt = oc ((ru (Am S'.M) (pushF S' (wdF x k)).lt S'.p).map (Gm S'.M))
            rw [pushF_ru (Nat.le_refl _)]; exact hI.stt
          · show mt = nI (lw (Am S'.M) (pushF S' (wdF x k)).lt S'.p)
            rw [l1]; exact hI.mt
          · show mr = lr (Am S'.M) (pushF S' (wdF x k)).lt S'.p
            rw [l2]; exact hI.mr
          · show ¬ over (Am S'.M) (pushF S' (wdF x k)).lt l'
            unfold over
            rw [pushF_ru b]
            exact hI.no l' a b
          · have hj : j < S'.p + 1 := hj
            show upd pe S'.p (nI (wdF x k)) j = nI (updN S'.lt S'.p (wdF x k) j)
            by_cases e : j = S'.p
            · subst e; rw [pk_us, updN_s]
            · rw [pk_un e, updN_n e]; exact hI.pe j (by omega)
        have hcu := q_cutAllDue hAm hMi hMa hac hacf (en := 0) hI2 (post := fun u2 u3 u4 u5 u6 u7 u8 u9 u10 u11 u12 => p_Stream_accept_3 0 (nI o) (nn 0) (fw 0) (6 * nn 0) (fa 0) acf (nn 1) (fw 1) (6 * nn 1) (fa 1) (nn 2) (fw 2) (6 * nn 2) (fa 2) x (nI n) post (d + 1) (nI (k + 1)) u2 u3 (S'.ca + 1) u4 u5 u6 u7 u8 u10 u9 u11 u12) (fun mo2 kc2 pc2 lo2 st2 mt2 mr2 pe2 sz2 fc2 ke2 hI3 => ?_)
        · exact hcu
        · have hen : (¬ (0 : Int32) = 0) = False := by simp
          rw [hen] at hI3
          have hend := cutsF_end (Am := Am) hac (en := False) 48 (pushF S' (wdF x k)) hok hok.p
          have hca2 : (cutsF Am ac False 48 (pushF S' (wdF x k))).ca = S'.ca + 1 := by
            have : ∀ m T, (cutsF Am ac False m T).ca = T.ca := by
              intro m
              induction m with
              | zero => intro T; rfl
              | succ m ih2 =>
                intro T
                by_cases hx : ∃ L, Due (Am T.M) False T.p T.lt L
                · obtain ⟨L, hL⟩ := hx
                  rw [cutsF_due hL, ih2]; rfl
                · unfold cutsF; rw [dif_neg hx]
            rw [this]; rfl
          rw [← hca2]
          refine ih (k + 1) _ mo2 kc2 pc2 lo2 st2 mt2 mr2 pe2 sz2 fc2 ke2 (by omega) ?_ ?_ hI3
          · have h1 := hend.1.p
            have h2 := hend.2.2.1
            omega
          · rw [hf]
            conv => lhs; unfold feedF
            rw [if_neg (by omega)]
  rw [hca]
  exact ⟨n + 1, key n 0 S mo kc pc lo stt mt mr pe sz fc ke (by omega) hp48 rfl h⟩